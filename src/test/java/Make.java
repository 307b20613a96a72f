// Builds editors that stand in a wanted state.
final class Make {
  static final String FULL = "abcdefghijklmnopqrstuvwxyz012345";
  static final int[] LASTS = {
    ReadlineEditor.LAST_OTHER, ReadlineEditor.LAST_INSERT, ReadlineEditor.LAST_KILL, ReadlineEditor.LAST_YANK
  };

  private Make() {}

  static String text(int size) {
    return FULL.substring(0, size);
  }

  static void times(ReadlineEditor x, int count, int code) {
    for (int i = 0; i < count; i++) {
      Probe.press(x, code);
    }
  }

  // A typed line with the cursor moved to its place; last is LAST_OTHER.
  static ReadlineEditor line(String text, int cursor) {
    ReadlineEditor x = new ReadlineEditor(16, 8, 4);
    Probe.type(x, text);
    place(x, cursor);
    return x;
  }

  static void place(ReadlineEditor x, int cursor) {
    if (x.info(ReadlineEditor.INFO_CURSOR) > 0) {
      Probe.press(x, Keys.HOME);
    }
    times(x, cursor, Keys.RIGHT);
  }

  static ReadlineEditor lines(int historyCap, String... lines) {
    ReadlineEditor x = new ReadlineEditor(16, historyCap, 4);
    for (String line : lines) {
      Probe.enter(x, line);
    }
    return x;
  }

  static ReadlineEditor searching(int historyCap, String... lines) {
    ReadlineEditor x = lines(historyCap, lines);
    Probe.press(x, Keys.SEARCH);
    return x;
  }

  // Each text is a kill entry of its own; the last one given is the newest.
  static ReadlineEditor ring(int ringCap, String... texts) {
    ReadlineEditor x = new ReadlineEditor(16, 8, ringCap);
    for (String text : texts) {
      kill(x, text);
    }
    return x;
  }

  static void kill(ReadlineEditor x, String text) {
    Probe.type(x, text);
    Probe.press(x, Keys.KILL_START);
  }

  // Every part of the state holds something, the cursor is inside the line, and last is as wanted.
  static ReadlineEditor withLast(int last) {
    ReadlineEditor x = new ReadlineEditor(7, 3, 3);
    Probe.enter(x, "one two");
    Probe.enter(x, "two");
    kill(x, "kk");
    kill(x, "j");
    Probe.type(x, "half");
    Probe.press(x, Keys.PREV);
    Probe.type(x, " cd ef");
    times(x, 3, Keys.LEFT);
    switch (last) {
      case ReadlineEditor.LAST_INSERT: Probe.type(x, "x"); break;
      case ReadlineEditor.LAST_KILL: Probe.press(x, Keys.KILL_BACK); break;
      case ReadlineEditor.LAST_YANK: Probe.press(x, Keys.YANK); break;
      default: break;
    }
    Probe.last("an editor made for its last", x, last);
    return x;
  }

  // The undo stack holds its full eight snapshots; the line is the one typed.
  static void fillUndo(ReadlineEditor x) {
    for (int i = 0; i < 4; i++) {
      Probe.type(x, "+");
      Probe.press(x, Keys.BACKSPACE);
    }
    Expect.same("depth of a filled undo stack", x.info(ReadlineEditor.INFO_UNDO_DEPTH), 8);
  }
}
