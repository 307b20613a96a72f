// "Display text D", "Screen" and promises 10 and 11: the picture at the ends of rows, lines and queries.
public final class PictureEdgesTest {
  public static void main(String[] args) {
    editDisplay();
    searchDisplayOfTheLine();
    searchDisplayOfTheMatch();
    longestDisplay();
    screenSize();
    cellsUpToTheEnd();
    cellsAfterShrinking();
    cellsAsTheDisplay();
    cellsPastTheDisplay();
    cursorPlace();
    cursorAtTheEndOfARow();
    cursorInsideAtTheEndOfARow();
    searchCursorAtTheEndOfARow();
    screenRange();
    noCellOfAnotherRow();
    cursorColumnRange();
    cursorRowRange();
    pictureAfterRefusal();
    readingChangesNothing();
    Expect.finish();
  }

  // What is due is made from the text and the cursor alone, not from other answers of the editor.
  private static void shown(String when, ReadlineEditor x, int width, String display, int cursor) {
    Expect.same(when + ": display", Probe.display(x), display);
    Expect.same(when + ": display length", x.info(ReadlineEditor.INFO_DISPLAY_LENGTH), display.length());
    Expect.same(when + ": display cursor", x.info(ReadlineEditor.INFO_DISPLAY_CURSOR), cursor);
    Expect.same(when + ": screen", Probe.screen(x), Probe.padded(display, 16 * width));
    Expect.same(when + ": row", x.screenCursorRow(), cursor / width);
    Expect.same(when + ": column", x.screenCursorCol(), cursor % width);
  }

  private static ReadlineEditor typed(int width, String text) {
    ReadlineEditor x = new ReadlineEditor(width, 3, 3);
    Probe.type(x, text);
    return x;
  }

  private static void editDisplay() {
    Expect.about("In edit mode, D is '>' then ' ' then B, and D's cursor index is 2+k.");
    int[] sizes = {0, 1, 31, 32};
    for (int size : sizes) {
      ReadlineEditor x = typed(16, Make.text(size));
      shown(size + " chars", x, 16, "> " + Make.text(size), 2 + size);
      Make.place(x, 0);
      shown(size + " chars, cursor at 0", x, 16, "> " + Make.text(size), 2);
    }
  }

  private static void searchDisplayOfTheLine() {
    Expect.about("Here L = h[m] if m >= 0, else B. (no match)");
    int[] sizes = {0, 1, 31, 32};
    for (int size : sizes) {
      ReadlineEditor x = new ReadlineEditor(16, 3, 3);
      Probe.enter(x, "entry");
      Probe.type(x, Make.text(size));
      Probe.press(x, Keys.SEARCH);
      shown("cursor at the end of " + size, x, 16, "?: " + Make.text(size), 3 + size);
      Probe.press(x, Keys.CANCEL);
      Make.place(x, 0);
      Probe.press(x, Keys.SEARCH);
      shown("cursor at the start of " + size, x, 16, "?: " + Make.text(size), 3);
    }
  }

  private static void searchDisplayOfTheMatch() {
    Expect.about("D's cursor index is 3+|q|+p if m >= 0, and 3+|q|+k otherwise.");
    ReadlineEditor x = Make.searching(3, "b", "xxa", "a");
    shown("no match", x, 16, "?: ", 3);
    Probe.press(x, Keys.SEARCH);
    shown("a match without query", x, 16, "?: a", 3);
    Probe.press(x, 'a');
    shown("p = 0", x, 16, "?a: a", 4);
    Probe.press(x, Keys.SEARCH);
    shown("p at the last char", x, 16, "?a: xxa", 6);
    Probe.press(x, Keys.BACKSPACE, Keys.SEARCH);
    shown("m = 0", x, 16, "?: b", 3);
    ReadlineEditor moved = Make.lines(3, "entry");
    Probe.type(moved, "abc");
    Probe.press(moved, Keys.LEFT, Keys.SEARCH, 'y');
    shown("k is not p", moved, 16, "?y: entry", 8);
    Probe.press(moved, Keys.CANCEL, Keys.SEARCH);
    shown("p is not k", moved, 16, "?: abc", 5);
  }

  private static void longestDisplay() {
    Expect.about("D holds at most 51 chars.");
    for (int width = 4; width <= 16; width++) {
      ReadlineEditor x = new ReadlineEditor(width, 3, 3);
      Probe.enter(x, Make.FULL);
      Probe.press(x, Keys.SEARCH);
      Probe.type(x, Make.FULL.substring(16, 31));
      shown("50 chars", x, width, "?" + Make.FULL.substring(16, 31) + ": " + Make.FULL, 3 + 15 + 16);
      Probe.press(x, '5');
      shown("51 chars", x, width, "?" + Make.FULL.substring(16) + ": " + Make.FULL, 3 + 16 + 16);
      Expect.same("displayChar(50)", x.displayChar(50), '5');
      Expect.same("displayChar(51)", x.displayChar(51), -1);
      Probe.refused(x, 'a', '5');
    }
  }

  private static void screenSize() {
    Expect.about("The screen has SCREEN_ROWS rows of W cells, and each cell holds a char code.");
    for (int width = 4; width <= 16; width++) {
      ReadlineEditor x = typed(width, Make.FULL);
      int cells = 0;
      for (int row = -20; row <= 40; row++) {
        for (int col = -20; col <= 40; col++) {
          int code = x.screenChar(row, col);
          if (code != -1) {
            cells++;
            Expect.same("cell (" + row + ", " + col + ") is printable", Keys.isPrintable(code) ? 1 : 0, 1);
          }
        }
      }
      Expect.same("cells at " + width, cells, 16 * width);
    }
  }

  private static void cellsUpToTheEnd() {
    Expect.about("Cell (row, col) holds D[row*W+col] if row*W+col < |D|, and 32 otherwise.");
    for (int width = 4; width <= 16; width++) {
      ReadlineEditor x = new ReadlineEditor(width, 3, 3);
      for (int size = 1; size <= 32; size++) {
        Probe.press(x, Make.FULL.charAt(size - 1));
        int end = 1 + size;
        Expect.same("last cell of D", x.screenChar(end / width, end % width), Make.FULL.charAt(size - 1));
        Expect.same("cell past D", x.screenChar((end + 1) / width, (end + 1) % width), 32);
        shown(size + " chars at " + width, x, width, "> " + Make.text(size), 2 + size);
      }
    }
  }

  private static void cellsAfterShrinking() {
    Expect.about("Cell (row, col) holds D[row*W+col] if row*W+col < |D|, and 32 otherwise. (D shrinks)");
    for (int width = 4; width <= 16; width++) {
      ReadlineEditor x = new ReadlineEditor(width, 3, 3);
      Probe.enter(x, Make.FULL);
      Probe.press(x, Keys.SEARCH);
      Probe.type(x, Make.text(16));
      Probe.press(x, Keys.CANCEL);
      shown("51 chars to 2", x, width, "> ", 2);
      Probe.type(x, Make.FULL);
      Probe.press(x, Keys.BACKSPACE);
      shown("34 chars to 33", x, width, "> " + Make.text(31), 33);
      Probe.press(x, Keys.KILL_START);
      shown("33 chars to 2", x, width, "> ", 2);
      Probe.press(x, Keys.YANK, Keys.UNDO);
      shown("grown and shrunk again", x, width, "> ", 2);
    }
  }

  // The pictures of a fresh, a short, a full and a searching editor.
  private static ReadlineEditor[] pictures(int width) {
    ReadlineEditor searching = typed(width, Make.FULL);
    Probe.press(searching, Keys.ENTER, Keys.SEARCH);
    Probe.type(searching, Make.text(16));
    ReadlineEditor begun = typed(width, "a");
    Probe.press(begun, Keys.ENTER, Keys.SEARCH);
    ReadlineEditor row = typed(width, Make.text(width - 2));
    return new ReadlineEditor[] {typed(width, ""), typed(width, "a"), row, typed(width, Make.FULL), begun, searching};
  }

  private static void cellsAsTheDisplay() {
    Expect.about("The answer equals displayChar(row*W+col) when row*W+col < info(INFO_DISPLAY_LENGTH).");
    for (int width = 4; width <= 16; width++) {
      for (ReadlineEditor x : pictures(width)) {
        int size = x.info(ReadlineEditor.INFO_DISPLAY_LENGTH);
        for (int i = 0; i < size; i++) {
          Expect.same("cell " + i + " of " + size, x.screenChar(i / width, i % width), x.displayChar(i));
        }
      }
    }
  }

  private static void cellsPastTheDisplay() {
    Expect.about("It equals 32 otherwise.");
    for (int width = 4; width <= 16; width++) {
      for (ReadlineEditor x : pictures(width)) {
        int size = x.info(ReadlineEditor.INFO_DISPLAY_LENGTH);
        for (int i = size; i < 16 * width; i++) {
          Expect.same("cell " + i + ", past " + size, x.screenChar(i / width, i % width), 32);
        }
      }
    }
  }

  private static void cursorPlace() {
    Expect.about("The terminal cursor stands at row = ci / W and col = ci % W, where ci is D's cursor index.");
    for (int width = 4; width <= 16; width++) {
      ReadlineEditor x = typed(width, Make.FULL);
      for (int k = 31; k >= 0; k--) {
        Probe.press(x, Keys.LEFT);
        shown("k = " + k + " at " + width, x, width, "> " + Make.FULL, 2 + k);
      }
    }
  }

  private static void cursorAt(String when, ReadlineEditor x, int row, int col) {
    Expect.same(when + ": row", x.screenCursorRow(), row);
    Expect.same(when + ": column", x.screenCursorCol(), col);
  }

  private static void cursorAtTheEndOfARow() {
    Expect.about("A cursor at an index that is a multiple of W, at the end of D, therefore stands at column 0 of the next row.");
    for (int width = 4; width <= 16; width++) {
      for (int rows = 1; rows * width <= 33; rows++) {
        int size = rows * width - 2;
        if (size > 0) {
          ReadlineEditor before = typed(width, Make.text(size - 1));
          cursorAt("one short of " + rows + " rows of " + width, before, rows - 1, width - 1);
        }
        ReadlineEditor at = typed(width, Make.text(size));
        cursorAt("at " + rows + " rows of " + width, at, rows, 0);
        Expect.same("the cell there", at.screenChar(rows, 0), 32);
        ReadlineEditor after = typed(width, Make.text(size + 1));
        cursorAt("one past " + rows + " rows of " + width, after, rows, 1);
      }
    }
  }

  private static void cursorInsideAtTheEndOfARow() {
    Expect.about("screenCursorRow()*W + screenCursorCol() == C. (C a multiple of W inside D)");
    for (int width = 4; width <= 16; width++) {
      ReadlineEditor x = typed(width, Make.FULL);
      Make.place(x, width - 3);
      cursorAt("one short of a row of " + width, x, 0, width - 1);
      Probe.press(x, Keys.RIGHT);
      cursorAt("at a row of " + width, x, 1, 0);
      Probe.press(x, Keys.RIGHT);
      cursorAt("one past a row of " + width, x, 1, 1);
    }
  }

  private static void searchCursorAtTheEndOfARow() {
    Expect.about("When the cursor is at the end of D and its index is a multiple of W, it stands at column 0 of the next row.");
    for (int width = 4; width <= 16; width++) {
      ReadlineEditor x = new ReadlineEditor(width, 3, 3);
      Probe.enter(x, "entry");
      for (int size = 0; size <= 32; size++) {
        Probe.press(x, Keys.SEARCH);
        int cursor = 3 + size;
        cursorAt("a search over " + size + " chars at " + width, x, cursor / width, cursor % width);
        Probe.press(x, Keys.CANCEL);
        if (size < 32) {
          Probe.press(x, 'a');
        }
      }
    }
  }

  private static void screenRange() {
    Expect.about("screenChar(row, col) answers the terminal cell (row, col) if 0 <= row < SCREEN_ROWS and 0 <= col < W, else -1.");
    for (int width = 4; width <= 16; width++) {
      ReadlineEditor x = typed(width, Make.FULL);
      Expect.same("first cell", x.screenChar(0, 0), '>');
      Expect.same("second cell", x.screenChar(0, 1), ' ');
      Expect.same("last column", x.screenChar(0, width - 1), Make.FULL.charAt(width - 3));
      Expect.same("one past the last column", x.screenChar(0, width), -1);
      Expect.same("one before the first column", x.screenChar(0, -1), -1);
      Expect.same("last row", x.screenChar(15, 0), 32);
      Expect.same("last cell of all", x.screenChar(15, width - 1), 32);
      Expect.same("row before the last", x.screenChar(14, width - 1), 32);
      Expect.same("one past the last row", x.screenChar(16, 0), -1);
      Expect.same("one before the first row", x.screenChar(-1, 0), -1);
      for (int far : Probe.FAR) {
        Expect.same("screenChar(" + far + ", 1)", x.screenChar(far, 1), -1);
        Expect.same("screenChar(1, " + far + ")", x.screenChar(1, far), -1);
        Expect.same("screenChar(" + far + ", " + far + ")", x.screenChar(far, far), -1);
      }
    }
  }

  private static void noCellOfAnotherRow() {
    Expect.about("screenChar(row, col) answers the terminal cell (row, col) if 0 <= row < SCREEN_ROWS and 0 <= col < W, else -1.");
    for (int width = 4; width <= 16; width++) {
      ReadlineEditor x = typed(width, Make.FULL);
      for (int row = -1; row <= 16; row++) {
        Expect.same("left of row " + row, x.screenChar(row, -1), -1);
        Expect.same("a row left of row " + row, x.screenChar(row, -width), -1);
        Expect.same("right of row " + row, x.screenChar(row, width), -1);
        Expect.same("column 16 of row " + row, x.screenChar(row, 16), -1);
      }
      for (int col = -1; col <= width; col++) {
        Expect.same("above column " + col, x.screenChar(-1, col), -1);
        Expect.same("below column " + col, x.screenChar(16, col), -1);
      }
    }
  }

  private static void cursorColumnRange() {
    Expect.about("0 <= screenCursorCol() < W.");
    for (int width = 4; width <= 16; width++) {
      ReadlineEditor x = typed(width, Make.FULL);
      Make.place(x, width - 3);
      Expect.same("greatest column at " + width, x.screenCursorCol(), width - 1);
      Probe.press(x, Keys.RIGHT);
      Expect.same("one past it at " + width, x.screenCursorCol(), 0);
      Probe.press(x, Keys.RIGHT);
      Expect.same("two past it at " + width, x.screenCursorCol(), 1);
    }
  }

  private static void cursorRowRange() {
    Expect.about("0 <= screenCursorRow() < SCREEN_ROWS.");
    for (int width = 4; width <= 16; width++) {
      ReadlineEditor x = typed(width, "");
      cursorAt("least index at " + width, x, 2 / width, 2 % width);
      Probe.enter(x, Make.FULL);
      Probe.type(x, Make.FULL);
      cursorAt("greatest index of edit mode at " + width, x, 34 / width, 34 % width);
      Probe.press(x, Keys.SEARCH);
      cursorAt("greatest index of a search over the line at " + width, x, 35 / width, 35 % width);
      Probe.type(x, Make.FULL.substring(16));
      cursorAt("greatest index of a search with a match at " + width, x, 35 / width, 35 % width);
    }
  }

  private static void pictureAfterRefusal() {
    Expect.about("After construction and after every call, the following holds (a refused call)");
    for (int width = 4; width <= 16; width += 3) {
      ReadlineEditor x = typed(width, Make.FULL);
      Expect.same("a refused char", x.key('x'), ReadlineEditor.REFUSED);
      shown("after a refused char", x, width, "> " + Make.FULL, 34);
      Probe.press(x, Keys.ENTER, Keys.SEARCH, 'c');
      Expect.same("a refused query char", x.key('a'), ReadlineEditor.REFUSED);
      shown("after a refused query char", x, width, "?c: " + Make.FULL, 6);
    }
  }

  private static void readingChangesNothing() {
    Expect.about("Nothing changes. (screenChar, screenCursorRow, screenCursorCol)");
    ReadlineEditor x = typed(5, "abc");
    String before = Probe.everything(x);
    for (int far : Probe.FAR) {
      x.screenChar(far, far);
      x.screenChar(0, far);
      x.screenChar(far, 0);
      x.screenCursorRow();
      x.screenCursorCol();
    }
    Expect.same("everything after reading the screen", Probe.everything(x), before);
  }
}
