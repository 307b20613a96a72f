// Two editors with the same keys behind them, of which one is touched in a way that must change nothing.
// What is hidden now, as p or y may be, would part them at some later key.
final class Twins {
  private static final int[] NEXT = Keys.run(Keys.named(), "at ~");

  private Twins() {}

  interface Touch {
    void on(ReadlineEditor x);
  }

  static ReadlineEditor run(int[] start) {
    ReadlineEditor x = new ReadlineEditor(7, 3, 3);
    Probe.press(x, start);
    return x;
  }

  static void refused(int[] start, int... codes) {
    for (int code : codes) {
      untouchedBy("the refused key(" + code + ")", start, x -> Probe.refused(x, code));
    }
  }

  static void untouchedBy(String what, int[] start, Touch touch) {
    for (int code : NEXT) {
      ReadlineEditor touched = run(start);
      ReadlineEditor other = run(start);
      touch.on(touched);
      // The other one is not even read before its key, as reading is a touch too.
      Expect.same("key(" + code + ") after " + what, touched.key(code), other.key(code));
      Expect.same("everything after " + what + " and key(" + code + ")", Probe.everything(touched), Probe.everything(other));
    }
  }
}
