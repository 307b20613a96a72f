// Promise 1: each argument at, below and above its limits, and each part of the fresh object.
public final class ConstructionEdgesTest {
  private static final int[] ANY = {
    Integer.MIN_VALUE, Integer.MIN_VALUE + 1, -1000, -1, 0, 1, 1000, Integer.MAX_VALUE - 1, Integer.MAX_VALUE
  };

  private static final int[] WIDTHS = {Integer.MIN_VALUE, 3, 4, 5, 15, 16, 17, Integer.MAX_VALUE};

  public static void main(String[] args) {
    anyInts();
    widthClamped();
    historyClamped();
    ringClamped();
    argumentsApart();
    objectsApart();
    emptyBuffer();
    emptyHistory();
    emptyDraft();
    emptyRingAndUndo();
    lastAndMode();
    noSearch();
    nothingAccepted();
    freshScreen();
    otherCells();
    Expect.finish();
  }

  private static int clamped(int value, int least, int greatest) {
    return value < least ? least : value > greatest ? greatest : value;
  }

  private static ReadlineEditor fresh() {
    return new ReadlineEditor(4, 1, 1);
  }

  private static void anyInts() {
    Expect.about("accepts any int values, including negative ones and the extremes of int");
    for (int width : ANY) {
      for (int historyCap : ANY) {
        for (int ringCap : ANY) {
          ReadlineEditor x = new ReadlineEditor(width, historyCap, ringCap);
          Expect.same("W of " + width, x.info(ReadlineEditor.INFO_WIDTH), clamped(width, 4, 16));
          Probe.enter(x, "a");
          Make.kill(x, "b");
          Probe.history("H of " + historyCap, x, "a");
          Probe.kills("R of " + ringCap, x, "b");
        }
      }
    }
  }

  private static void widthClamped() {
    Expect.about("width becomes W in 4..16.");
    for (int width = -3; width <= 20; width++) {
      ReadlineEditor x = new ReadlineEditor(width, 1, 1);
      int due = clamped(width, 4, 16);
      Expect.same("W of " + width, x.info(ReadlineEditor.INFO_WIDTH), due);
      Expect.same("last column of " + width, x.screenChar(0, due - 1), 32);
      Expect.same("one past it", x.screenChar(0, due), -1);
      Probe.type(x, Make.text(due - 2));
      Expect.same("the row that the cursor wraps to", x.screenCursorRow(), 1);
    }
  }

  private static void historyClamped() {
    Expect.about("historyCap becomes H in 1..8.");
    for (int cap = -3; cap <= 12; cap++) {
      ReadlineEditor x = new ReadlineEditor(4, cap, 1);
      int due = clamped(cap, 1, 8);
      for (int i = 0; i < due; i++) {
        Probe.enter(x, "" + i);
      }
      Expect.same("the first line is kept up to H of " + cap, Probe.entry(x, 0), "0");
      Probe.enter(x, "more");
      Expect.same("hc one past H of " + cap, x.info(ReadlineEditor.INFO_HISTORY_COUNT), due);
      Expect.same("oldest one past H of " + cap, Probe.entry(x, 0), due == 1 ? "more" : "1");
    }
  }

  private static void ringClamped() {
    Expect.about("ringCap becomes R in 1..4.");
    for (int cap = -3; cap <= 8; cap++) {
      ReadlineEditor x = new ReadlineEditor(4, 1, cap);
      int due = clamped(cap, 1, 4);
      for (int i = 0; i < due; i++) {
        Make.kill(x, "" + i);
      }
      Expect.same("the first kill is kept up to R of " + cap, Probe.kill(x, due - 1), "0");
      Make.kill(x, "more");
      Expect.same("kc one past R of " + cap, x.info(ReadlineEditor.INFO_KILL_COUNT), due);
      Expect.same("oldest one past R of " + cap, Probe.kill(x, due - 1), due == 1 ? "more" : "1");
    }
  }

  // The three arguments have limits of their own: one out of range leaves the others as given.
  private static void argumentsApart() {
    Expect.about("Each argument is clamped: a value below the least allowed becomes the least, and a value above the greatest becomes the greatest.");
    int[][] given = {{0, 3, 2}, {99, 3, 2}, {9, 0, 2}, {9, 99, 2}, {9, 3, 0}, {9, 3, 99}};
    int[][] due = {{4, 3, 2}, {16, 3, 2}, {9, 1, 2}, {9, 8, 2}, {9, 3, 1}, {9, 3, 4}};
    for (int i = 0; i < given.length; i++) {
      ReadlineEditor x = new ReadlineEditor(given[i][0], given[i][1], given[i][2]);
      for (int n = 0; n < 10; n++) {
        Probe.enter(x, "line");
        Make.kill(x, "kill");
      }
      Expect.same("W, row " + i, x.info(ReadlineEditor.INFO_WIDTH), due[i][0]);
      Expect.same("H, row " + i, x.info(ReadlineEditor.INFO_HISTORY_COUNT), due[i][1]);
      Expect.same("R, row " + i, x.info(ReadlineEditor.INFO_KILL_COUNT), due[i][2]);
    }
  }

  private static void objectsApart() {
    Expect.about("All of this state lives in the object.");
    ReadlineEditor first = Make.withLast(ReadlineEditor.LAST_YANK);
    String before = Probe.everything(first);
    ReadlineEditor second = new ReadlineEditor(4, 1, 1);
    Expect.same("a fresh object beside a used one", Probe.everything(second), Probe.everything(fresh()));
    Probe.enter(second, Make.FULL);
    Make.kill(second, Make.FULL);
    Probe.press(second, Keys.SEARCH, 'a');
    Expect.same("a used object beside another", Probe.everything(first), before);
  }

  private static void emptyBuffer() {
    Expect.about("B is empty (n = 0) and k = 0.");
    ReadlineEditor x = fresh();
    Probe.line("fresh", x, "", 0);
    Expect.same("bufferChar(0)", x.bufferChar(0), -1);
    Probe.refused(x, Keys.LEFT, Keys.RIGHT, Keys.HOME, Keys.END, Keys.BACKSPACE, Keys.DELETE);
  }

  private static void emptyHistory() {
    Expect.about("History is empty: hc = 0 and nav = 0.");
    ReadlineEditor x = fresh();
    Probe.history("fresh", x);
    Expect.same("nav", x.info(ReadlineEditor.INFO_NAV), 0);
    Expect.same("historyChar(0, 0)", x.historyChar(0, 0), -1);
    Probe.refused(x, Keys.PREV, Keys.NEXT, Keys.SEARCH);
  }

  private static void emptyDraft() {
    Expect.about("draft is empty.");
    Expect.same("draft length", fresh().info(ReadlineEditor.INFO_DRAFT_LENGTH), 0);
    Expect.same("draftChar(0)", fresh().draftChar(0), -1);
  }

  private static void emptyRingAndUndo() {
    Expect.about("The kill ring is empty (kc = 0), and the undo stack is empty.");
    ReadlineEditor x = fresh();
    Probe.kills("fresh", x);
    Expect.same("undo", Parts.undo(x), "0:" + " []-1".repeat(9));
    Expect.same("killChar(0, 0)", x.killChar(0, 0), -1);
    Probe.refused(x, Keys.YANK, Keys.POP, Keys.UNDO);
  }

  private static void lastAndMode() {
    Expect.about("last = LAST_OTHER and mode = MODE_EDIT.");
    ReadlineEditor x = fresh();
    Probe.last("fresh", x, ReadlineEditor.LAST_OTHER);
    Expect.same("mode", x.info(ReadlineEditor.INFO_MODE), ReadlineEditor.MODE_EDIT);
    Probe.refused(x, Keys.CANCEL);
    Probe.press(x, 'a');
    Expect.same("the first char pushes", x.info(ReadlineEditor.INFO_UNDO_DEPTH), 1);
  }

  private static void noSearch() {
    Expect.about("q is empty and m = -1.");
    Expect.same("query length", fresh().info(ReadlineEditor.INFO_QUERY_LENGTH), 0);
    Expect.same("match", fresh().info(ReadlineEditor.INFO_MATCH), -1);
  }

  private static void nothingAccepted() {
    Expect.about("accepted = 0.");
    ReadlineEditor x = fresh();
    Expect.same("accepted", x.info(ReadlineEditor.INFO_ACCEPTED), 0);
    Probe.press(x, Keys.ENTER);
    Expect.same("accepted after one", x.info(ReadlineEditor.INFO_ACCEPTED), 1);
  }

  private static void freshScreen() {
    Expect.about("The screen then shows D = '>' ' ' with the cursor at row 0, column 2.");
    for (int width : WIDTHS) {
      ReadlineEditor x = new ReadlineEditor(width, 1, 1);
      Expect.same("display", Probe.display(x), "> ");
      Expect.same("cell (0, 0)", x.screenChar(0, 0), '>');
      Expect.same("cell (0, 1)", x.screenChar(0, 1), ' ');
      Expect.same("row", x.screenCursorRow(), 0);
      Expect.same("column", x.screenCursorCol(), 2);
    }
  }

  private static void otherCells() {
    Expect.about("All other cells hold 32.");
    for (int width : WIDTHS) {
      ReadlineEditor x = new ReadlineEditor(width, 1, 1);
      for (int i = 2; i < 16 * clamped(width, 4, 16); i++) {
        int columns = clamped(width, 4, 16);
        Expect.same("cell " + i + " at " + width, x.screenChar(i / columns, i % columns), 32);
      }
    }
  }
}
