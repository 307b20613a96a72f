// Promise 1: any three ints are clamped, and the fresh object is empty.
public final class ConstructionTest {
  public static void main(String[] args) {
    widths();
    historyCaps();
    ringCaps();
    freshObject();
    objectsAreApart();
    Expect.finish();
  }

  private static int clamped(int value, int least, int greatest) {
    return Math.max(least, Math.min(greatest, value));
  }

  private static final int[] SIZES = {
    Integer.MIN_VALUE, -100, -1, 0, 1, 2, 3, 4, 5, 7, 8, 9, 10, 15, 16, 17, 100, Integer.MAX_VALUE
  };

  private static void widths() {
    for (int size : SIZES) {
      ReadlineEditor x = new ReadlineEditor(size, 3, 2);
      int width = clamped(size, 4, 16);
      Expect.same("width of " + size, x.info(ReadlineEditor.INFO_WIDTH), width);
      Expect.same("last column at width " + size, x.screenChar(0, width - 1), 32);
      Expect.same("column past width " + size, x.screenChar(0, width), -1);
    }
  }

  private static void historyCaps() {
    for (int size : SIZES) {
      ReadlineEditor x = new ReadlineEditor(8, size, 2);
      for (int i = 0; i < 10; i++) {
        Probe.enter(x, "" + i);
      }
      int cap = clamped(size, 1, 8);
      Expect.same("history count at " + size, x.info(ReadlineEditor.INFO_HISTORY_COUNT), cap);
      Expect.same("oldest entry at " + size, Probe.entry(x, 0), "" + (10 - cap));
      Expect.same("newest entry at " + size, Probe.entry(x, cap - 1), "9");
    }
  }

  private static void ringCaps() {
    for (int size : SIZES) {
      ReadlineEditor x = new ReadlineEditor(8, 3, size);
      for (int i = 0; i < 6; i++) {
        Probe.type(x, "" + i);
        Probe.press(x, ReadlineEditor.KEY_KILL_START);
      }
      int cap = clamped(size, 1, 4);
      Expect.same("kill count at " + size, x.info(ReadlineEditor.INFO_KILL_COUNT), cap);
      Expect.same("newest kill at " + size, Probe.kill(x, 0), "5");
      Expect.same("oldest kill at " + size, Probe.kill(x, cap - 1), "" + (6 - cap));
    }
  }

  private static void freshObject() {
    for (int size : SIZES) {
      ReadlineEditor x = new ReadlineEditor(size, size, size);
      int width = clamped(size, 4, 16);
      int[] due = {0, 0, 0, 0, 0, 0, 0, 0, -1, -1, 0, 0, 2, 2, width, 0};
      for (int which = 0; which < due.length; which++) {
        Expect.same("fresh info(" + which + ")", x.info(which), due[which]);
      }
      Expect.same("fresh buffer", Probe.buffer(x), "");
      Expect.same("fresh draft", Probe.draft(x), "");
      Probe.kills("fresh", x);
      Probe.history("fresh", x);
      Expect.same("fresh undo cursor", x.undoCursor(0), -1);
      Expect.same("fresh screen", Probe.screen(x), Probe.padded("> ", 16 * width));
      Expect.same("fresh cursor row", x.screenCursorRow(), 0);
      Expect.same("fresh cursor column", x.screenCursorCol(), 2);
    }
  }

  private static void objectsAreApart() {
    ReadlineEditor used = new ReadlineEditor(8, 2, 2);
    ReadlineEditor idle = new ReadlineEditor(8, 2, 2);
    String before = Probe.everything(idle);
    Probe.enter(used, "abc");
    Probe.type(used, "de");
    Probe.press(used, ReadlineEditor.KEY_KILL_START);
    Expect.same("an object beside a used one", Probe.everything(idle), before);
  }
}
