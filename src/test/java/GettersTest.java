// Promises 3 to 11: what each getter answers, also out of range, and that it changes nothing.
public final class GettersTest {
  public static void main(String[] args) {
    infoOfASession();
    wrongSelectors();
    bufferChars();
    draftChars();
    historyChars();
    killChars();
    undoLevels();
    displayChars();
    screenCells();
    wrappedCursor();
    gettersChangeNothing();
    Expect.finish();
  }

  // A session that leaves every part of the state with something in it.
  private static ReadlineEditor busy() {
    ReadlineEditor x = new ReadlineEditor(6, 3, 3);
    Probe.enter(x, "first");
    Probe.enter(x, "no. 2");
    Probe.type(x, "kill me too");
    Probe.press(x, ReadlineEditor.KEY_KILL_WORD_BACK, ReadlineEditor.KEY_LEFT, ReadlineEditor.KEY_KILL_WORD_BACK);
    Probe.press(x, ReadlineEditor.KEY_HIST_PREV);
    Probe.type(x, "ab");
    Probe.press(x, ReadlineEditor.KEY_HOME, ReadlineEditor.KEY_YANK, ReadlineEditor.KEY_YANK_POP);
    return x;
  }

  private static void infoOfASession() {
    ReadlineEditor x = busy();
    int[] due = {0, 10, 3, 1, 2, 2, 2, ReadlineEditor.LAST_YANK, 1, -1, 0, 2, 12, 5, 6, 6};
    for (int which = 0; which < due.length; which++) {
      Expect.same("info(" + which + ")", x.info(which), due[which]);
    }
    Probe.press(x, ReadlineEditor.KEY_SEARCH, 'i');
    int[] searching = {1, 10, 3, 1, 2, 2, 2, ReadlineEditor.LAST_OTHER, -1, 0, 1, 2, 9, 5, 6, 6};
    for (int which = 0; which < searching.length; which++) {
      Expect.same("info(" + which + ") in search mode", x.info(which), searching[which]);
    }
  }

  private static void wrongSelectors() {
    ReadlineEditor x = busy();
    for (int which : Probe.FAR) {
      Expect.same("info(" + which + ")", x.info(which), -1);
    }
    for (int which = 16; which < 300; which++) {
      Expect.same("info(" + which + ")", x.info(which), -1);
      Expect.same("info(" + -which + ")", x.info(-which), -1);
    }
  }

  private static void bufferChars() {
    ReadlineEditor x = busy();
    Expect.same("buffer", Probe.buffer(x), "toono. 2ab");
    Expect.same("bufferChar(9)", x.bufferChar(9), 'b');
    Expect.same("bufferChar(10)", x.bufferChar(10), -1);
    for (int pos : Probe.FAR) {
      Expect.same("bufferChar(" + pos + ")", x.bufferChar(pos), -1);
    }
    Probe.press(x, ReadlineEditor.KEY_SEARCH, 'f');
    Expect.same("buffer in search mode", Probe.buffer(x), "toono. 2ab");
    Probe.press(x, ReadlineEditor.KEY_CANCEL, ReadlineEditor.KEY_BACKSPACE);
    Expect.same("a char that was cut off", x.bufferChar(9), -1);
  }

  private static void draftChars() {
    ReadlineEditor x = busy();
    Expect.same("draft", Probe.draft(x), "kill  ");
    Expect.same("draftChar(5)", x.draftChar(5), ' ');
    Expect.same("draftChar(6)", x.draftChar(6), -1);
    for (int pos : Probe.FAR) {
      Expect.same("draftChar(" + pos + ")", x.draftChar(pos), -1);
    }
    Probe.press(x, ReadlineEditor.KEY_HIST_NEXT);
    Expect.same("draftChar(0) of an empty draft", x.draftChar(0), -1);
  }

  private static void historyChars() {
    ReadlineEditor x = busy();
    Probe.history("busy", x, "first", "no. 2");
    Expect.same("historyChar(0, 4)", x.historyChar(0, 4), 't');
    Expect.same("historyChar(0, 5)", x.historyChar(0, 5), -1);
    Expect.same("historyChar(2, 0)", x.historyChar(2, 0), -1);
    for (int far : Probe.FAR) {
      Expect.same("historyChar(" + far + ", 0)", x.historyChar(far, 0), -1);
      Expect.same("historyChar(0, " + far + ")", x.historyChar(0, far), -1);
      Expect.same("historyChar(1, " + far + ")", x.historyChar(1, far), -1);
      Expect.same("historyChar(" + far + ", " + far + ")", x.historyChar(far, far), -1);
    }
  }

  private static void killChars() {
    ReadlineEditor x = busy();
    Probe.kills("busy", x, "me", "too");
    Expect.same("killChar(0, 1)", x.killChar(0, 1), 'e');
    Expect.same("killChar(0, 2)", x.killChar(0, 2), -1);
    Expect.same("killChar(2, 0)", x.killChar(2, 0), -1);
    for (int far : Probe.FAR) {
      Expect.same("killChar(" + far + ", 0)", x.killChar(far, 0), -1);
      Expect.same("killChar(0, " + far + ")", x.killChar(0, far), -1);
      Expect.same("killChar(1, " + far + ")", x.killChar(1, far), -1);
      Expect.same("killChar(" + far + ", " + far + ")", x.killChar(far, far), -1);
    }
  }

  private static void undoLevels() {
    ReadlineEditor x = busy();
    Expect.same("undo text 0", Probe.undo(x, 0), "no. 2ab");
    Expect.same("undo cursor 0", x.undoCursor(0), 0);
    Expect.same("undo text 1", Probe.undo(x, 1), "no. 2");
    Expect.same("undo cursor 1", x.undoCursor(1), 5);
    Expect.same("undoChar(0, 6)", x.undoChar(0, 6), 'b');
    Expect.same("undoChar(0, 7)", x.undoChar(0, 7), -1);
    Expect.same("undoChar(1, 5)", x.undoChar(1, 5), -1);
    Expect.same("undoChar(2, 0)", x.undoChar(2, 0), -1);
    Expect.same("undoCursor(2)", x.undoCursor(2), -1);
    for (int far : Probe.FAR) {
      Expect.same("undoChar(" + far + ", 0)", x.undoChar(far, 0), -1);
      Expect.same("undoChar(0, " + far + ")", x.undoChar(0, far), -1);
      Expect.same("undoChar(" + far + ", " + far + ")", x.undoChar(far, far), -1);
      Expect.same("undoCursor(" + far + ")", x.undoCursor(far), -1);
    }
    Probe.press(x, ReadlineEditor.KEY_UNDO);
    Expect.same("undo text 0 after an undo", Probe.undo(x, 0), "no. 2");
    Expect.same("undo cursor 1 after an undo", x.undoCursor(1), -1);
  }

  private static void displayChars() {
    ReadlineEditor x = busy();
    Expect.same("display in edit mode", Probe.display(x), "> toono. 2ab");
    Expect.same("displayChar(12)", x.displayChar(12), -1);
    for (int i : Probe.FAR) {
      Expect.same("displayChar(" + i + ")", x.displayChar(i), -1);
    }
    Probe.press(x, ReadlineEditor.KEY_SEARCH);
    Expect.same("display without a match", Probe.display(x), "?: toono. 2ab");
    Expect.same("display cursor without a match", x.info(ReadlineEditor.INFO_DISPLAY_CURSOR), 6);
    Probe.press(x, 's', 't');
    Expect.same("display with a match", Probe.display(x), "?st: first");
    Expect.same("display cursor with a match", x.info(ReadlineEditor.INFO_DISPLAY_CURSOR), 8);
    Expect.same("displayChar(10)", x.displayChar(10), -1);
    for (int i : Probe.FAR) {
      Expect.same("displayChar(" + i + ") in search mode", x.displayChar(i), -1);
    }
  }

  private static void screenCells() {
    for (int width = 4; width <= 16; width++) {
      ReadlineEditor x = new ReadlineEditor(width, 2, 2);
      Probe.picture("fresh at " + width, x);
      for (int i = 0; i < 32; i++) {
        Probe.press(x, 'a' + i % 26);
        Probe.picture(i + 1 + " chars at " + width, x);
      }
      Probe.press(x, ReadlineEditor.KEY_HOME);
      for (int i = 1; i <= 32; i++) {
        Probe.press(x, ReadlineEditor.KEY_RIGHT);
        Probe.picture("step " + i + " at " + width, x);
      }
      Probe.press(x, ReadlineEditor.KEY_ENTER);
      Expect.same("the old line is wiped", Probe.screen(x), Probe.padded("> ", 16 * width));
      Expect.same("last cell", x.screenChar(15, width - 1), 32);
      Expect.same("past the last row", x.screenChar(16, 0), -1);
      Expect.same("past the last column", x.screenChar(0, width), -1);
      for (int far : Probe.FAR) {
        Expect.same("screenChar(" + far + ", 0)", x.screenChar(far, 0), -1);
        Expect.same("screenChar(0, " + far + ")", x.screenChar(0, far), -1);
        Expect.same("screenChar(" + far + ", " + far + ")", x.screenChar(far, far), -1);
      }
    }
  }

  private static void wrappedCursor() {
    ReadlineEditor x = new ReadlineEditor(5, 2, 2);
    Probe.type(x, "abc");
    Expect.same("row after a full row", x.screenCursorRow(), 1);
    Expect.same("column after a full row", x.screenCursorCol(), 0);
    Probe.press(x, ReadlineEditor.KEY_LEFT);
    Expect.same("row on the last char", x.screenCursorRow(), 0);
    Expect.same("column on the last char", x.screenCursorCol(), 4);
    Probe.press(x, ReadlineEditor.KEY_ENTER, ReadlineEditor.KEY_SEARCH, 'b');
    Expect.same("row in search mode", x.screenCursorRow(), 1);
    Expect.same("column in search mode", x.screenCursorCol(), 0);
  }

  private static void gettersChangeNothing() {
    ReadlineEditor x = busy();
    String before = Probe.everything(x);
    Expect.same("everything, read again", Probe.everything(x), before);
    for (int far : Probe.FAR) {
      x.info(far);
      x.bufferChar(far);
      x.draftChar(far);
      x.historyChar(far, far);
      x.killChar(far, far);
      x.undoChar(far, far);
      x.undoCursor(far);
      x.displayChar(far);
      x.screenChar(far, far);
    }
    Expect.same("everything after wrong calls", Probe.everything(x), before);
    Probe.press(x, ReadlineEditor.KEY_YANK_POP);
    Probe.line("a pop after all the getters", x, "meno. 2ab", 2);
  }
}
