// Counts the answers that are not as due, and ends the test with exit code 1 if there was one.
final class Expect {
  private static int wrong = 0;
  private static String sentence = "";

  private Expect() {}

  // Names the document's sentence that the checks after it hold to, so that a fault tells it.
  static void about(String quoted) {
    sentence = "(" + quoted + ") ";
  }

  static void same(String what, long got, long want) {
    if (got != want) {
      tell(what + " answered " + got + ", due is " + want);
    }
  }

  static void same(String what, String got, String want) {
    if (!got.equals(want)) {
      tell(what + " is [" + got + "], due is [" + want + "]");
    }
  }

  static void tell(String fault) {
    wrong++;
    if (wrong <= 50) {
      System.out.println(sentence + fault);
    }
  }

  static boolean allAsDue() {
    return wrong == 0;
  }

  static void finish() {
    System.out.println(wrong == 0 ? "all answers are as due" : wrong + " answers are not as due");
    if (wrong != 0) {
      System.exit(1);
    }
  }
}
