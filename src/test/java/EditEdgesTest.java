// Promise 2, "Edit mode": typing, moving, deleting and undo at the ends of the line and of the stack.
public final class EditEdgesTest {
  private static final int[] SIZES = {1, 2, 31, 32};

  public static void main(String[] args) {
    lastAfterEachKey();
    typeIntoAFullLine();
    typePushes();
    typeInserts();
    typedRunIsOneGroup();
    leftAtTheStart();
    rightAtTheEnd();
    homeAtTheStart();
    endAtTheEnd();
    wordLeftAtTheStart();
    wordRightAtTheEnd();
    movesKeepTheRest();
    backspaceAtTheStart();
    backspaceRemoves();
    deleteAtTheEnd();
    deleteRemoves();
    deletionsOfAFullLine();
    undoOfNothing();
    undoTakesLevelZero();
    undoFromAFullStack();
    undoEndsARun();
    cancelIsRefused();
    Expect.finish();
  }

  private static int depth(ReadlineEditor x) {
    return x.info(ReadlineEditor.INFO_UNDO_DEPTH);
  }

  private static void lastAfterEachKey() {
    Expect.about("Every key taken in edit mode ends with last = LAST_OTHER, unless its rule says otherwise.");
    int[] others = {
      Keys.LEFT, Keys.RIGHT, Keys.HOME, Keys.END, Keys.WORD_LEFT, Keys.WORD_RIGHT, Keys.BACKSPACE, Keys.DELETE, Keys.UNDO,
      Keys.PREV, Keys.NEXT, Keys.ENTER, Keys.SEARCH
    };
    int[] kills = {Keys.KILL_END, Keys.KILL_FWD, Keys.KILL_START, Keys.KILL_BACK};
    for (int last : Make.LASTS) {
      for (int code : others) {
        lastAfter(last, code, ReadlineEditor.LAST_OTHER);
      }
      for (int code : kills) {
        lastAfter(last, code, ReadlineEditor.LAST_KILL);
      }
      lastAfter(last, 'x', ReadlineEditor.LAST_INSERT);
      lastAfter(last, Keys.YANK, ReadlineEditor.LAST_YANK);
    }
    lastAfter(ReadlineEditor.LAST_YANK, Keys.POP, ReadlineEditor.LAST_YANK);
  }

  private static void lastAfter(int before, int code, int due) {
    ReadlineEditor x = Make.withLast(before);
    Probe.press(x, code);
    Probe.last("key(" + code + ") after " + before, x, due);
  }

  private static void typeIntoAFullLine() {
    Expect.about("Printable c. REFUSED if n = MAX_LINE.");
    int[] cursors = {0, 1, 16, 31};
    for (int k : cursors) {
      ReadlineEditor x = Make.line(Make.text(30), Math.min(k, 30));
      Probe.press(x, '+');
      Expect.same("n one short", x.info(ReadlineEditor.INFO_LENGTH), 31);
      Probe.press(x, '+');
      Expect.same("n at the limit", x.info(ReadlineEditor.INFO_LENGTH), 32);
      Probe.refused(x, '+', ' ', '~');
    }
    for (int k = 0; k <= 32; k++) {
      Probe.refused(Make.line(Make.FULL, k), 'x');
    }
    ReadlineEditor freed = Make.line(Make.FULL, 32);
    Probe.press(freed, Keys.BACKSPACE, '!');
    Probe.line("room for one again", freed, Make.text(31) + "!", 32);
    Probe.refused(freed, '!');
  }

  private static void typePushes() {
    Expect.about("If last is not LAST_INSERT, PUSH first.");
    for (int last : Make.LASTS) {
      ReadlineEditor x = Make.withLast(last);
      int before = depth(x);
      String line = Probe.buffer(x);
      int cursor = x.info(ReadlineEditor.INFO_CURSOR);
      Probe.press(x, 'x');
      boolean pushes = last != ReadlineEditor.LAST_INSERT;
      Expect.same("depth after last = " + last, depth(x), pushes ? before + 1 : before);
      if (pushes) {
        Expect.same("level 0", Probe.undo(x, 0), line);
        Expect.same("its cursor", x.undoCursor(0), cursor);
      }
      Probe.press(x, 'y');
      Expect.same("depth after one more", depth(x), pushes ? before + 1 : before);
    }
  }

  private static void typeInserts() {
    Expect.about("Then c is inserted at index k, so chars from k move one place right. k increases by 1");
    int[] sizes = {0, 1, 2, 30, 31};
    for (int size : sizes) {
      for (int k = 0; k <= size; k++) {
        ReadlineEditor x = Make.line(Make.text(size), k);
        Probe.press(x, '+');
        Probe.line("typed at " + k, x, Make.text(k) + "+" + Make.text(size).substring(k), k + 1);
      }
    }
  }

  private static void typedRunIsOneGroup() {
    Expect.about("A run of typed chars therefore forms one undo group.");
    for (int size : SIZES) {
      ReadlineEditor x = Make.line("", 0);
      Probe.type(x, Make.text(size));
      Expect.same("depth after " + size, depth(x), 1);
      if (size == 32) {
        Probe.refused(x, 'x');
      }
      Probe.press(x, Keys.UNDO);
      Probe.line("undone", x, "", 0);
      Probe.refused(x, Keys.UNDO);
    }
    ReadlineEditor two = Make.line("", 0);
    Probe.type(two, "ab");
    Probe.press(two, Keys.LEFT, Keys.RIGHT);
    Probe.type(two, "cd");
    Probe.press(two, Keys.UNDO);
    Probe.line("a move ends the run", two, "ab", 2);
  }

  private static void leftAtTheStart() {
    Expect.about("KEY_LEFT. REFUSED if k = 0; otherwise k decreases by 1.");
    Probe.refused(Make.line("", 0), Keys.LEFT);
    for (int size : SIZES) {
      Probe.refused(Make.line(Make.text(size), 0), Keys.LEFT);
      for (int k = 1; k <= size; k++) {
        ReadlineEditor x = Make.line(Make.text(size), k);
        Probe.press(x, Keys.LEFT);
        Probe.line("from " + k, x, Make.text(size), k - 1);
      }
    }
  }

  private static void rightAtTheEnd() {
    Expect.about("KEY_RIGHT. REFUSED if k = n; otherwise k increases by 1.");
    Probe.refused(Make.line("", 0), Keys.RIGHT);
    for (int size : SIZES) {
      Probe.refused(Make.line(Make.text(size), size), Keys.RIGHT);
      for (int k = 0; k < size; k++) {
        ReadlineEditor x = Make.line(Make.text(size), k);
        Probe.press(x, Keys.RIGHT);
        Probe.line("from " + k, x, Make.text(size), k + 1);
      }
    }
  }

  private static void homeAtTheStart() {
    Expect.about("KEY_HOME. REFUSED if k = 0; otherwise k becomes 0.");
    Probe.refused(Make.line("", 0), Keys.HOME);
    for (int size : SIZES) {
      Probe.refused(Make.line(Make.text(size), 0), Keys.HOME);
      for (int k = 1; k <= size; k++) {
        ReadlineEditor x = Make.line(Make.text(size), k);
        Probe.press(x, Keys.HOME);
        Probe.line("from " + k, x, Make.text(size), 0);
      }
    }
  }

  private static void endAtTheEnd() {
    Expect.about("KEY_END. REFUSED if k = n; otherwise k becomes n.");
    Probe.refused(Make.line("", 0), Keys.END);
    for (int size : SIZES) {
      Probe.refused(Make.line(Make.text(size), size), Keys.END);
      for (int k = 0; k < size; k++) {
        ReadlineEditor x = Make.line(Make.text(size), k);
        Probe.press(x, Keys.END);
        Probe.line("from " + k, x, Make.text(size), size);
      }
    }
  }

  private static void wordLeftAtTheStart() {
    Expect.about("KEY_WORD_LEFT. REFUSED if wl = k; otherwise k becomes wl.");
    String[] lines = {"", "a", "-", "ab", "--", Make.FULL, " ".repeat(32)};
    for (String line : lines) {
      Probe.refused(Make.line(line, 0), Keys.WORD_LEFT);
      for (int k = 1; k <= line.length(); k++) {
        ReadlineEditor x = Make.line(line, k);
        Probe.press(x, Keys.WORD_LEFT);
        Probe.line("from " + k, x, line, 0);
      }
    }
    ReadlineEditor step = Make.line("-a", 2);
    Probe.press(step, Keys.WORD_LEFT);
    Probe.line("wl = k-1", step, "-a", 1);
  }

  private static void wordRightAtTheEnd() {
    Expect.about("KEY_WORD_RIGHT. REFUSED if wr = k; otherwise k becomes wr.");
    String[] lines = {"", "a", "-", "ab", "--", Make.FULL, " ".repeat(32)};
    for (String line : lines) {
      int size = line.length();
      Probe.refused(Make.line(line, size), Keys.WORD_RIGHT);
      for (int k = 0; k < size; k++) {
        ReadlineEditor x = Make.line(line, k);
        Probe.press(x, Keys.WORD_RIGHT);
        Probe.line("from " + k, x, line, size);
      }
    }
    ReadlineEditor step = Make.line("a-", 0);
    Probe.press(step, Keys.WORD_RIGHT);
    Probe.line("wr = k+1", step, "a-", 1);
  }

  private static void movesKeepTheRest() {
    Expect.about("Unless a rule above says otherwise, a key leaves everything else unchanged. (moves)");
    int[] moves = {Keys.LEFT, Keys.RIGHT, Keys.HOME, Keys.END, Keys.WORD_LEFT, Keys.WORD_RIGHT};
    for (int code : moves) {
      Parts.changed(Make.withLast(ReadlineEditor.LAST_OTHER), code, "k");
      Parts.changed(Make.withLast(ReadlineEditor.LAST_INSERT), code, "k", "last");
      Parts.changed(Make.withLast(ReadlineEditor.LAST_KILL), code, "k", "last");
      Parts.changed(Make.withLast(ReadlineEditor.LAST_YANK), code, "k", "last", "y");
    }
  }

  private static void backspaceAtTheStart() {
    Expect.about("KEY_BACKSPACE. REFUSED if k = 0.");
    Probe.refused(Make.line("", 0), Keys.BACKSPACE);
    for (int size : SIZES) {
      Probe.refused(Make.line(Make.text(size), 0), Keys.BACKSPACE);
      ReadlineEditor x = Make.line(Make.text(size), 1);
      Probe.press(x, Keys.BACKSPACE);
      Probe.line("from k = 1", x, Make.text(size).substring(1), 0);
      Probe.refused(x, Keys.BACKSPACE);
    }
  }

  private static void backspaceRemoves() {
    Expect.about("Otherwise PUSH, remove B[k-1], and k decreases by 1.");
    for (int size : SIZES) {
      for (int k = 1; k <= size; k++) {
        ReadlineEditor x = Make.line(Make.text(size), k);
        Probe.press(x, Keys.BACKSPACE);
        Probe.line("from " + k, x, Make.text(k - 1) + Make.text(size).substring(k), k - 1);
        Expect.same("depth", depth(x), 2);
        Expect.same("level 0", Probe.undo(x, 0), Make.text(size));
        Expect.same("its cursor", x.undoCursor(0), k);
      }
    }
    Parts.changed(Make.withLast(ReadlineEditor.LAST_OTHER), Keys.BACKSPACE, "B", "k", "undo");
    Parts.changed(Make.withLast(ReadlineEditor.LAST_KILL), Keys.BACKSPACE, "B", "k", "undo", "last");
  }

  private static void deleteAtTheEnd() {
    Expect.about("KEY_DELETE. REFUSED if k = n.");
    Probe.refused(Make.line("", 0), Keys.DELETE);
    for (int size : SIZES) {
      Probe.refused(Make.line(Make.text(size), size), Keys.DELETE);
      ReadlineEditor x = Make.line(Make.text(size), size - 1);
      Probe.press(x, Keys.DELETE);
      Probe.line("from k = n-1", x, Make.text(size - 1), size - 1);
      Probe.refused(x, Keys.DELETE);
    }
  }

  private static void deleteRemoves() {
    Expect.about("Otherwise PUSH and remove B[k]; k is unchanged.");
    for (int size : SIZES) {
      for (int k = 0; k < size; k++) {
        ReadlineEditor x = Make.line(Make.text(size), k);
        Probe.press(x, Keys.DELETE);
        Probe.line("from " + k, x, Make.text(k) + Make.text(size).substring(k + 1), k);
        Expect.same("depth", depth(x), 2);
        Expect.same("level 0", Probe.undo(x, 0), Make.text(size));
        Expect.same("its cursor", x.undoCursor(0), k);
      }
    }
    Parts.changed(Make.withLast(ReadlineEditor.LAST_OTHER), Keys.DELETE, "B", "undo");
    Parts.changed(Make.withLast(ReadlineEditor.LAST_KILL), Keys.DELETE, "B", "undo", "last");
  }

  private static void deletionsOfAFullLine() {
    Expect.about("B is the buffer, a text of n chars (0..MAX_LINE) (emptied char by char)");
    ReadlineEditor back = Make.line(Make.FULL, 32);
    for (int size = 31; size >= 0; size--) {
      Probe.press(back, Keys.BACKSPACE);
      Probe.line("backspace", back, Make.text(size), size);
    }
    Probe.refused(back, Keys.BACKSPACE, Keys.DELETE);
    ReadlineEditor ahead = Make.line(Make.FULL, 0);
    for (int size = 31; size >= 0; size--) {
      Probe.press(ahead, Keys.DELETE);
      Probe.line("delete", ahead, Make.FULL.substring(32 - size), 0);
    }
    Probe.refused(ahead, Keys.BACKSPACE, Keys.DELETE);
  }

  private static void undoOfNothing() {
    Expect.about("KEY_UNDO. REFUSED if the undo stack is empty.");
    Probe.refused(Make.line("", 0), Keys.UNDO);
    ReadlineEditor x = Make.line("", 0);
    Probe.type(x, "a");
    Probe.press(x, Keys.UNDO);
    Probe.refused(x, Keys.UNDO);
    ReadlineEditor emptied = Make.lines(2, "one");
    Probe.refused(emptied, Keys.UNDO);
    Probe.press(emptied, 'a', Keys.PREV);
    Probe.refused(emptied, Keys.UNDO);
    Probe.press(emptied, 'a', Keys.NEXT);
    Probe.refused(emptied, Keys.UNDO);
  }

  private static void undoTakesLevelZero() {
    Expect.about("Otherwise (B, k) becomes the snapshot at level 0, and that snapshot is removed from the stack.");
    ReadlineEditor x = Make.line("abcd", 2);
    Probe.press(x, Keys.DELETE, Keys.END, Keys.BACKSPACE, Keys.HOME);
    Expect.same("three levels", Parts.undo(x), "3: [abd]3 [abcd]2 []0" + " []-1".repeat(6));
    Probe.press(x, Keys.UNDO);
    Probe.line("one undone", x, "abd", 3);
    Expect.same("two levels", Parts.undo(x), "2: [abcd]2 []0" + " []-1".repeat(7));
    Probe.press(x, Keys.UNDO);
    Probe.line("two undone", x, "abcd", 2);
    Expect.same("one level", Parts.undo(x), "1: []0" + " []-1".repeat(8));
    Probe.press(x, Keys.UNDO);
    Probe.line("three undone", x, "", 0);
    Expect.same("no level", Parts.undo(x), "0:" + " []-1".repeat(9));
    Parts.changed(Make.withLast(ReadlineEditor.LAST_KILL), Keys.UNDO, "B", "k", "undo", "last");
    Parts.changed(Make.withLast(ReadlineEditor.LAST_YANK), Keys.UNDO, "B", "k", "undo", "last", "y");
  }

  private static void undoFromAFullStack() {
    Expect.about("KEY_UNDO. REFUSED if the undo stack is empty. (after eight, from a stack that dropped its oldest)");
    for (int pushes = 7; pushes <= 10; pushes++) {
      ReadlineEditor x = Make.line(Make.text(12), 12);
      Make.times(x, pushes - 1, Keys.BACKSPACE);
      int undone = 0;
      while (undone < 12 && x.key(Keys.UNDO) == ReadlineEditor.OK) {
        undone++;
      }
      Expect.same("undone after " + pushes, undone, Math.min(8, pushes));
      int left = pushes <= 8 ? 0 : 12 - (pushes - 9);
      Probe.line("the oldest kept of " + pushes, x, Make.text(left), left);
      Probe.refused(x, Keys.UNDO);
    }
  }

  private static void undoEndsARun() {
    Expect.about("Every key taken in edit mode ends with last = LAST_OTHER, unless its rule says otherwise. (KEY_UNDO)");
    ReadlineEditor x = Make.line("", 0);
    Probe.type(x, "ab");
    Probe.press(x, Keys.BACKSPACE);
    Probe.type(x, "c");
    Probe.press(x, Keys.UNDO);
    Probe.type(x, "d");
    Expect.same("a char after an undo pushes", depth(x), 3);
    ReadlineEditor kill = Make.line("ab cd", 5);
    Probe.press(kill, Keys.KILL_BACK, Keys.UNDO, Keys.KILL_BACK);
    Probe.kills("a kill after an undo does not chain", kill, "cd", "cd");
    Probe.press(kill, Keys.YANK, Keys.UNDO);
    Probe.refused(kill, Keys.POP);
  }

  private static void cancelIsRefused() {
    Expect.about("KEY_CANCEL. REFUSED. (edit mode)");
    Probe.refused(Make.line("", 0), Keys.CANCEL);
    Probe.refused(Make.line(Make.FULL, 32), Keys.CANCEL);
    for (int last : Make.LASTS) {
      Probe.refused(Make.withLast(last), Keys.CANCEL);
    }
    ReadlineEditor x = Make.searching(1, "a");
    Probe.press(x, Keys.CANCEL);
    Probe.refused(x, Keys.CANCEL);
  }
}
