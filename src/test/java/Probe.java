// Presses keys on an editor and reads its answers as texts.
final class Probe {
  // Ints that lie outside every range of the document.
  static final int[] FAR = {
    -1, -2, -33, 64, 256, 1 << 20, -(1 << 30), Integer.MAX_VALUE, Integer.MIN_VALUE,
    Integer.MAX_VALUE - 1, Integer.MIN_VALUE + 1
  };

  // Codes that are no keys, many of them a key's code once the high bits or the sign are lost.
  static final int[] FAR_CODES = {
    Integer.MIN_VALUE, Integer.MIN_VALUE + 1, Integer.MIN_VALUE + 97, -65536, -256, -203, -126, -97, -32, -13, -2, -1,
    204, 255, 256, 256 + 8, 256 + 13, 256 + 97, 65536, 65536 + 97, (1 << 24) + 97, Integer.MAX_VALUE - 1, Integer.MAX_VALUE
  };

  private Probe() {}

  interface Chars {
    int at(int pos);
  }

  static void type(ReadlineEditor x, String text) {
    for (int i = 0; i < text.length(); i++) {
      Expect.same("key of '" + text.charAt(i) + "' in \"" + text + "\"", x.key(text.charAt(i)), ReadlineEditor.OK);
    }
  }

  static void press(ReadlineEditor x, int... codes) {
    for (int code : codes) {
      Expect.same("key(" + code + ")", x.key(code), ReadlineEditor.OK);
    }
  }

  static void enter(ReadlineEditor x, String line) {
    type(x, line);
    press(x, ReadlineEditor.KEY_ENTER);
  }

  // A refused key must leave every answer as it was.
  static void refused(ReadlineEditor x, int... codes) {
    for (int code : codes) {
      String before = everything(x);
      Expect.same("key(" + code + ")", x.key(code), ReadlineEditor.REFUSED);
      Expect.same("the state after the refused key(" + code + ")", everything(x), before);
    }
  }

  static void line(String when, ReadlineEditor x, String text, int cursor) {
    Expect.same(when + ": buffer", buffer(x), text);
    Expect.same(when + ": length", x.info(ReadlineEditor.INFO_LENGTH), text.length());
    Expect.same(when + ": cursor", x.info(ReadlineEditor.INFO_CURSOR), cursor);
  }

  static void last(String when, ReadlineEditor x, int want) {
    Expect.same(when + ": last", x.info(ReadlineEditor.INFO_LAST), want);
  }

  static void kills(String when, ReadlineEditor x, String... want) {
    Expect.same(when + ": kill count", x.info(ReadlineEditor.INFO_KILL_COUNT), want.length);
    for (int i = 0; i < want.length; i++) {
      Expect.same(when + ": kill " + i, kill(x, i), want[i]);
    }
    Expect.same(when + ": kill past the ring", kill(x, want.length), "");
  }

  static void history(String when, ReadlineEditor x, String... want) {
    Expect.same(when + ": history count", x.info(ReadlineEditor.INFO_HISTORY_COUNT), want.length);
    for (int i = 0; i < want.length; i++) {
      Expect.same(when + ": history " + i, entry(x, i), want[i]);
    }
    Expect.same(when + ": entry past the history", entry(x, want.length), "");
  }

  static void search(String when, ReadlineEditor x, int match, int queryLength, String display, int cursor) {
    Expect.same(when + ": mode", x.info(ReadlineEditor.INFO_MODE), ReadlineEditor.MODE_SEARCH);
    Expect.same(when + ": match", x.info(ReadlineEditor.INFO_MATCH), match);
    Expect.same(when + ": query length", x.info(ReadlineEditor.INFO_QUERY_LENGTH), queryLength);
    Expect.same(when + ": display", display(x), display);
    Expect.same(when + ": display cursor", x.info(ReadlineEditor.INFO_DISPLAY_CURSOR), cursor);
  }

  static String buffer(ReadlineEditor x) {
    return read(x::bufferChar);
  }

  static String draft(ReadlineEditor x) {
    return read(x::draftChar);
  }

  static String entry(ReadlineEditor x, int idx) {
    return read(pos -> x.historyChar(idx, pos));
  }

  static String kill(ReadlineEditor x, int idx) {
    return read(pos -> x.killChar(idx, pos));
  }

  static String undo(ReadlineEditor x, int level) {
    return read(pos -> x.undoChar(level, pos));
  }

  static String display(ReadlineEditor x) {
    return read(x::displayChar);
  }

  static String screen(ReadlineEditor x) {
    StringBuilder cells = new StringBuilder();
    int width = x.info(ReadlineEditor.INFO_WIDTH);
    for (int row = 0; row < ReadlineEditor.SCREEN_ROWS; row++) {
      for (int col = 0; col < width; col++) {
        cells.append((char) x.screenChar(row, col));
      }
    }
    return cells.toString();
  }

  // The screen as the document asks it to be, from what the other getters answer.
  static void picture(String when, ReadlineEditor x) {
    String display = display(x);
    int width = x.info(ReadlineEditor.INFO_WIDTH);
    Expect.same(when + ": display length", x.info(ReadlineEditor.INFO_DISPLAY_LENGTH), display.length());
    Expect.same(when + ": screen", screen(x), padded(display, ReadlineEditor.SCREEN_ROWS * width));
    int cursor = x.info(ReadlineEditor.INFO_DISPLAY_CURSOR);
    Expect.same(when + ": screen cursor row", x.screenCursorRow(), cursor / width);
    Expect.same(when + ": screen cursor column", x.screenCursorCol(), cursor % width);
  }

  static String padded(String text, int size) {
    return text + " ".repeat(size - text.length());
  }

  // Every answer that an editor can give, in one text.
  static String everything(ReadlineEditor x) {
    StringBuilder all = new StringBuilder();
    for (int which = 0; which <= ReadlineEditor.INFO_DRAFT_LENGTH; which++) {
      all.append(x.info(which)).append(' ');
    }
    all.append('[').append(buffer(x)).append("][").append(draft(x)).append(']');
    for (int i = 0; i < 9; i++) {
      all.append(" h[").append(entry(x, i)).append(']');
      all.append(" e[").append(kill(x, i)).append(']');
      all.append(" u[").append(undo(x, i)).append(']').append(x.undoCursor(i));
    }
    all.append(" d[").append(display(x)).append("] s[").append(screen(x)).append(']');
    all.append(x.screenCursorRow()).append(',').append(x.screenCursorCol());
    return all.toString();
  }

  private static String read(Chars chars) {
    StringBuilder text = new StringBuilder();
    for (int pos = 0; pos < 64 && chars.at(pos) != -1; pos++) {
      text.append((char) chars.at(pos));
    }
    return text.toString();
  }
}
