// Promise 2, edit mode: typing, moving, deleting, undo, and codes that are no keys.
public final class EditKeysTest {
  private static final String FULL = "abcdefghijklmnopqrstuvwxyz012345";

  public static void main(String[] args) {
    unknownCodes();
    freshRefusals();
    printables();
    typingInTheMiddle();
    fullLine();
    moves();
    words();
    wordCharEdges();
    wordsEndWithTheLine();
    deletions();
    undoGroups();
    undoCapacity();
    refusedKeepsRun();
    Expect.finish();
  }

  private static ReadlineEditor fresh() {
    return new ReadlineEditor(8, 3, 2);
  }

  private static boolean isKey(int code) {
    int[] named = {1, 2, 4, 5, 6, 7, 8, 11, 13, 14, 16, 18, 21, 23, 25, 31, 200, 201, 202, 203};
    for (int key : named) {
      if (key == code) {
        return true;
      }
    }
    return code >= 32 && code <= 126;
  }

  private static void unknownCodes() {
    ReadlineEditor edit = fresh();
    ReadlineEditor search = fresh();
    Probe.enter(edit, "one");
    Probe.type(edit, "two");
    Probe.enter(search, "one");
    Probe.type(search, "two");
    Probe.press(search, ReadlineEditor.KEY_SEARCH, 'o');
    for (int code = -300; code <= 600; code++) {
      if (!isKey(code)) {
        Probe.refused(edit, code);
        Probe.refused(search, code);
      }
    }
    int[] far = {Integer.MIN_VALUE, Integer.MAX_VALUE, 65536 + 97, 256 + 97, -97, (1 << 31) + 97};
    Probe.refused(edit, far);
    Probe.refused(search, far);
  }

  private static void freshRefusals() {
    Probe.refused(fresh(), 1, 2, 4, 5, 6, 7, 8, 11, 14, 16, 18, 21, 23, 25, 31, 200, 201, 202, 203);
  }

  private static void printables() {
    for (int code = 32; code <= 126; code++) {
      ReadlineEditor x = fresh();
      Expect.same("key(" + code + ")", x.key(code), ReadlineEditor.OK);
      Probe.line("after " + code, x, "" + (char) code, 1);
      Probe.last("after " + code, x, ReadlineEditor.LAST_INSERT);
      Expect.same("undo depth after " + code, x.info(ReadlineEditor.INFO_UNDO_DEPTH), 1);
    }
  }

  private static void typingInTheMiddle() {
    ReadlineEditor x = fresh();
    Probe.type(x, "ad");
    Probe.press(x, ReadlineEditor.KEY_LEFT);
    Probe.type(x, "bc");
    Probe.line("typed in the middle", x, "abcd", 3);
    Probe.press(x, ReadlineEditor.KEY_HOME);
    Probe.type(x, "_");
    Probe.line("typed at the start", x, "_abcd", 1);
  }

  private static void fullLine() {
    ReadlineEditor x = fresh();
    Probe.type(x, FULL);
    Probe.line("full", x, FULL, 32);
    Probe.refused(x, 'x', ' ', '~');
    Probe.press(x, ReadlineEditor.KEY_HOME);
    Probe.refused(x, 'x');
    Probe.press(x, ReadlineEditor.KEY_DELETE);
    Probe.type(x, "A");
    Probe.line("full again", x, "A" + FULL.substring(1), 1);
    Probe.refused(x, 'x');
  }

  private static void moves() {
    ReadlineEditor x = fresh();
    Probe.type(x, "abc");
    Probe.refused(x, ReadlineEditor.KEY_RIGHT, ReadlineEditor.KEY_END);
    Probe.press(x, ReadlineEditor.KEY_LEFT);
    Probe.line("left", x, "abc", 2);
    Probe.last("left", x, ReadlineEditor.LAST_OTHER);
    Probe.press(x, ReadlineEditor.KEY_RIGHT);
    Probe.line("right", x, "abc", 3);
    Probe.press(x, ReadlineEditor.KEY_HOME);
    Probe.line("home", x, "abc", 0);
    Probe.refused(x, ReadlineEditor.KEY_HOME, ReadlineEditor.KEY_LEFT, ReadlineEditor.KEY_WORD_LEFT);
    Probe.press(x, ReadlineEditor.KEY_END);
    Probe.line("end", x, "abc", 3);
    Expect.same("moves push nothing", x.info(ReadlineEditor.INFO_UNDO_DEPTH), 1);
  }

  private static void words() {
    ReadlineEditor x = fresh();
    Probe.type(x, "..ab  c9-Z ");
    Probe.refused(x, ReadlineEditor.KEY_WORD_RIGHT);
    int[] leftward = {9, 6, 2, 0};
    for (int due : leftward) {
      Probe.press(x, ReadlineEditor.KEY_WORD_LEFT);
      Expect.same("word left", x.info(ReadlineEditor.INFO_CURSOR), due);
    }
    Probe.refused(x, ReadlineEditor.KEY_WORD_LEFT);
    int[] rightward = {4, 8, 10, 11};
    for (int due : rightward) {
      Probe.press(x, ReadlineEditor.KEY_WORD_RIGHT);
      Expect.same("word right", x.info(ReadlineEditor.INFO_CURSOR), due);
    }
    Probe.refused(x, ReadlineEditor.KEY_WORD_RIGHT);
    Probe.press(x, ReadlineEditor.KEY_HOME, ReadlineEditor.KEY_RIGHT, ReadlineEditor.KEY_RIGHT, ReadlineEditor.KEY_RIGHT);
    Probe.press(x, ReadlineEditor.KEY_WORD_RIGHT);
    Expect.same("word right from inside a word", x.info(ReadlineEditor.INFO_CURSOR), 4);
    Probe.press(x, ReadlineEditor.KEY_LEFT, ReadlineEditor.KEY_WORD_LEFT);
    Expect.same("word left from inside a word", x.info(ReadlineEditor.INFO_CURSOR), 2);
  }

  // A word char between two others is passed; any other char stops the move.
  private static void wordCharEdges() {
    for (int code = 32; code <= 126; code++) {
      boolean isWord = code >= '0' && code <= '9' || code >= 'A' && code <= 'Z' || code >= 'a' && code <= 'z';
      ReadlineEditor x = fresh();
      Probe.type(x, "a" + (char) code + "b");
      Probe.press(x, ReadlineEditor.KEY_WORD_LEFT);
      Expect.same("word left over " + code, x.info(ReadlineEditor.INFO_CURSOR), isWord ? 0 : 2);
      ReadlineEditor z = fresh();
      Probe.type(z, "a" + (char) code + "b");
      Probe.press(z, ReadlineEditor.KEY_HOME, ReadlineEditor.KEY_WORD_RIGHT);
      Expect.same("word right over " + code, z.info(ReadlineEditor.INFO_CURSOR), isWord ? 3 : 1);
    }
  }

  // Chars that were cut off, or that would lie past a full line, are no part of a word.
  private static void wordsEndWithTheLine() {
    ReadlineEditor x = fresh();
    Probe.type(x, "abc");
    Probe.press(x, ReadlineEditor.KEY_BACKSPACE, ReadlineEditor.KEY_HOME, ReadlineEditor.KEY_WORD_RIGHT);
    Probe.line("word right to a shortened end", x, "ab", 2);
    ReadlineEditor full = fresh();
    Probe.type(full, FULL);
    Probe.press(full, ReadlineEditor.KEY_WORD_LEFT, ReadlineEditor.KEY_WORD_RIGHT);
    Probe.line("word right to a full end", full, FULL, 32);
  }

  private static void deletions() {
    ReadlineEditor x = fresh();
    Probe.type(x, "abcd");
    Probe.refused(x, ReadlineEditor.KEY_DELETE);
    Probe.press(x, ReadlineEditor.KEY_BACKSPACE);
    Probe.line("backspace at the end", x, "abc", 3);
    Probe.last("backspace", x, ReadlineEditor.LAST_OTHER);
    Probe.press(x, ReadlineEditor.KEY_LEFT, ReadlineEditor.KEY_BACKSPACE);
    Probe.line("backspace in the middle", x, "ac", 1);
    Probe.press(x, ReadlineEditor.KEY_LEFT);
    Probe.refused(x, ReadlineEditor.KEY_BACKSPACE);
    Probe.press(x, ReadlineEditor.KEY_DELETE);
    Probe.line("delete at the start", x, "c", 0);
    Probe.last("delete", x, ReadlineEditor.LAST_OTHER);
    Expect.same("each deletion pushes", x.info(ReadlineEditor.INFO_UNDO_DEPTH), 4);
    Probe.kills("deletions", x);
    Probe.press(x, ReadlineEditor.KEY_DELETE);
    Probe.refused(x, ReadlineEditor.KEY_DELETE, ReadlineEditor.KEY_BACKSPACE);
  }

  private static void undoGroups() {
    ReadlineEditor x = fresh();
    Probe.type(x, "abc");
    Probe.press(x, ReadlineEditor.KEY_LEFT);
    Probe.type(x, "XY");
    Probe.press(x, ReadlineEditor.KEY_BACKSPACE, ReadlineEditor.KEY_DELETE);
    Probe.line("before undo", x, "abX", 3);
    Probe.press(x, ReadlineEditor.KEY_UNDO);
    Probe.line("undo the delete", x, "abXc", 3);
    Probe.last("undo", x, ReadlineEditor.LAST_OTHER);
    Probe.press(x, ReadlineEditor.KEY_UNDO);
    Probe.line("undo the backspace", x, "abXYc", 4);
    Probe.press(x, ReadlineEditor.KEY_UNDO);
    Probe.line("undo the second run", x, "abc", 2);
    Probe.type(x, "Q");
    Expect.same("typing after an undo pushes", x.info(ReadlineEditor.INFO_UNDO_DEPTH), 2);
    Probe.press(x, ReadlineEditor.KEY_UNDO, ReadlineEditor.KEY_UNDO);
    Probe.line("undo the first run", x, "", 0);
    Probe.refused(x, ReadlineEditor.KEY_UNDO);
  }

  private static void undoCapacity() {
    ReadlineEditor x = fresh();
    Probe.type(x, "abcdefghijklm");
    for (int i = 0; i < 10; i++) {
      Probe.press(x, ReadlineEditor.KEY_BACKSPACE);
    }
    Expect.same("depth at capacity", x.info(ReadlineEditor.INFO_UNDO_DEPTH), 8);
    for (int level = 0; level < 8; level++) {
      Expect.same("undo text " + level, Probe.undo(x, level), "abcdefghijklm".substring(0, 4 + level));
      Expect.same("undo cursor " + level, x.undoCursor(level), 4 + level);
    }
    for (int i = 0; i < 8; i++) {
      Probe.press(x, ReadlineEditor.KEY_UNDO);
    }
    Probe.line("eight undone", x, "abcdefghijk", 11);
    Probe.refused(x, ReadlineEditor.KEY_UNDO);
  }

  // A refused key does not end a run of typed chars.
  private static void refusedKeepsRun() {
    ReadlineEditor x = fresh();
    Probe.type(x, "a");
    Probe.refused(x, ReadlineEditor.KEY_RIGHT, ReadlineEditor.KEY_CANCEL, ReadlineEditor.KEY_YANK, ReadlineEditor.KEY_SEARCH, 0);
    Probe.last("after refusals", x, ReadlineEditor.LAST_INSERT);
    Probe.type(x, "b");
    Expect.same("still one group", x.info(ReadlineEditor.INFO_UNDO_DEPTH), 1);
    Probe.press(x, ReadlineEditor.KEY_UNDO);
    Probe.line("the whole run is undone", x, "", 0);
  }
}
