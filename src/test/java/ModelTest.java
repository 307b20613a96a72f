// Promises 1 to 11 over long mixed runs: every answer after every key is the one of Model.
public final class ModelTest {
  private static final int[] NAMED = {1, 2, 4, 5, 6, 7, 8, 11, 13, 14, 16, 18, 21, 23, 25, 31, 200, 201, 202, 203};
  private static final int[] WRONG = {0, 3, 9, 27, 127, 199, 204, -1, Integer.MIN_VALUE, Integer.MAX_VALUE};
  // Few letters, so that searches match often and words are short.
  private static final String LETTERS = "aab b-Z9";

  private static long seed = 20261115;

  public static void main(String[] args) {
    for (int run = 0; run < 3000 && Expect.allAsDue(); run++) {
      oneRun(run);
    }
    Expect.finish();
  }

  // A fixed sequence that looks mixed: the same runs each time.
  private static int next(int bound) {
    seed = seed * 6364136223846793005L + 1442695040888963407L;
    return (int) ((seed >>> 33) % bound);
  }

  private static void oneRun(int run) {
    int width = next(20);
    int historyCap = next(11);
    int ringCap = next(7);
    ReadlineEditor x = new ReadlineEditor(width, historyCap, ringCap);
    Model model = new Model(width, historyCap, ringCap);
    StringBuilder keys = new StringBuilder("new (" + width + ", " + historyCap + ", " + ringCap + ")");
    int typing = 20 + next(70);
    for (int step = 0; step < 200 && Expect.allAsDue(); step++) {
      int code = nextKey(typing);
      keys.append(' ').append(code);
      String before = Probe.everything(x);
      int got = x.key(code);
      int want = model.key(code) ? 1 : 0;
      Expect.same("run " + run + ", " + keys, got, want);
      String after = Probe.everything(x);
      Expect.same("run " + run + ", " + keys + ": everything", after, model.everything());
      if (want == 0) {
        Expect.same("run " + run + ", " + keys + ": a refused key", after, before);
      }
    }
  }

  private static int nextKey(int typing) {
    int kind = next(100);
    if (kind < typing) {
      return LETTERS.charAt(next(LETTERS.length()));
    }
    if (kind == 99) {
      return WRONG[next(WRONG.length)];
    }
    return NAMED[next(NAMED.length)];
  }
}
