// Promise 2: "A REFUSED key changes nothing at all, not even last", for each rule that refuses,
// from states where every part that can hold something does, and for each value of last.
public final class RefusedEdgesTest {
  private static final int[] LINES = Keys.run("one two", Keys.ENTER, "two three", Keys.ENTER);
  private static final int[] KILLS = Keys.run("kkk", Keys.KILL_START, "j", Keys.KILL_START);
  // Stands on the newest entry, "two three", with a draft; nav is 1 of 2.
  private static final int[] STEPPED = Keys.run("half", Keys.PREV);
  private static final int[] BUSY = Keys.run(LINES, KILLS, STEPPED);
  private static final int[] OLDEST = Keys.run(BUSY, Keys.PREV);
  private static final int[] NEWEST = Keys.run(BUSY, Keys.NEXT);
  private static final int[] NO_LINES = Keys.run(KILLS, "some text");
  private static final int[] UNKNOWN = {0, 3, 9, 10, 30, 127, 199, 204, -1, Integer.MIN_VALUE, Integer.MAX_VALUE};

  // What makes last each of its values, with the cursor left inside the line.
  private static final int[][] TO_LAST = {
    Keys.run("+ab", Keys.LEFT), Keys.run(Keys.LEFT, "+"), Keys.run(Keys.LEFT, Keys.KILL_BACK), Keys.run(Keys.LEFT, Keys.YANK, Keys.POP)
  };

  public static void main(String[] args) {
    fullLine();
    startOfTheLine();
    endOfTheLine();
    yankWithoutKills();
    yankOverTheLimit();
    popWithoutYank();
    popOverTheLimit();
    undoOfNothing();
    prevAtTheOldest();
    nextAtTheNewest();
    searchWithoutHistory();
    cancelInEditMode();
    unknownInEditMode();
    fullQuery();
    charNotFound();
    noOlderMatch();
    emptyQuery();
    otherKeysInSearchMode();
    Expect.finish();
  }

  private static void about(String rule) {
    Expect.about("A REFUSED key changes nothing at all, not even last. " + rule);
  }

  private static void fullLine() {
    about("Printable c. REFUSED if n = MAX_LINE.");
    int[] full = Keys.run(BUSY, Make.text(23));
    Twins.refused(full, 'x', ' ', '~');
    Twins.refused(Keys.run(full, Keys.LEFT), 'x');
    Twins.refused(Keys.run(full, Keys.HOME), 'x');
    Twins.refused(Keys.run(BUSY, Make.text(22), Keys.YANK), 'x');
    Twins.refused(Keys.run(BUSY, Make.text(20), Keys.YANK, Keys.POP), 'x');
  }

  private static void startOfTheLine() {
    about("KEY_LEFT, KEY_HOME, KEY_WORD_LEFT, KEY_BACKSPACE, KEY_KILL_START, KEY_KILL_WORD_BACK at k = 0");
    int[] keys = {Keys.LEFT, Keys.HOME, Keys.WORD_LEFT, Keys.BACKSPACE, Keys.KILL_START, Keys.KILL_BACK};
    Twins.refused(Keys.run(BUSY, "+", Keys.HOME), keys);
    Twins.refused(Keys.run(BUSY, Keys.LEFT, Keys.KILL_START), keys);
    Twins.refused(Keys.run(BUSY, "+", Keys.KILL_START), keys);
  }

  private static void endOfTheLine() {
    about("KEY_RIGHT, KEY_END, KEY_WORD_RIGHT, KEY_DELETE, KEY_KILL_END, KEY_KILL_WORD_FWD at k = n");
    int[] keys = {Keys.RIGHT, Keys.END, Keys.WORD_RIGHT, Keys.DELETE, Keys.KILL_END, Keys.KILL_FWD};
    Twins.refused(Keys.run(BUSY, "+", Keys.LEFT, Keys.RIGHT), keys);
    Twins.refused(Keys.run(BUSY, "+"), keys);
    Twins.refused(Keys.run(BUSY, Keys.LEFT, Keys.KILL_END), keys);
    Twins.refused(Keys.run(BUSY, Keys.YANK, Keys.POP), keys);
    Twins.refused(Keys.run(BUSY, Keys.KILL_START), keys);
  }

  private static void yankWithoutKills() {
    about("KEY_YANK. REFUSED if kc = 0");
    int[] noKills = Keys.run(LINES, STEPPED);
    Twins.refused(noKills, Keys.YANK);
    Twins.refused(Keys.run(noKills, "+"), Keys.YANK);
    Twins.refused(Keys.run(noKills, "+", Keys.LEFT), Keys.YANK);
  }

  private static void yankOverTheLimit() {
    about("KEY_YANK. REFUSED if n+|e[0]| > MAX_LINE.");
    int[] full = Keys.run(BUSY, Make.text(23));
    Twins.refused(full, Keys.YANK);
    Twins.refused(Keys.run(full, Keys.LEFT), Keys.YANK);
    Twins.refused(Keys.run(BUSY, Make.text(22), Keys.YANK), Keys.YANK);
    Twins.refused(Keys.run(BUSY, Make.text(20), Keys.YANK, Keys.POP), Keys.YANK);
  }

  private static void popWithoutYank() {
    about("KEY_YANK_POP. REFUSED if last is not LAST_YANK.");
    for (int last = 0; last <= 2; last++) {
      int[] start = Keys.run(BUSY, TO_LAST[last]);
      Probe.last("the start", Twins.run(start), last);
      Twins.refused(start, Keys.POP);
    }
    Twins.refused(Keys.run(BUSY, Keys.YANK, Keys.POP, Keys.LEFT), Keys.POP);
  }

  private static void popOverTheLimit() {
    about("The key is REFUSED if n-|e[y]|+|e[z]| > MAX_LINE.");
    Twins.refused(Keys.run(BUSY, Make.text(21), Keys.YANK), Keys.POP);
    int[] three = Keys.run(LINES, Make.text(9), Keys.KILL_START, KILLS, STEPPED);
    Twins.refused(Keys.run(three, Make.text(16), Keys.LEFT, Keys.YANK, Keys.POP), Keys.POP);
  }

  private static void undoOfNothing() {
    about("KEY_UNDO. REFUSED if the undo stack is empty.");
    Twins.refused(BUSY, Keys.UNDO);
    Twins.refused(Keys.run(BUSY, Keys.LEFT), Keys.UNDO);
    Twins.refused(NEWEST, Keys.UNDO);
    Twins.refused(Keys.run(BUSY, "+", Keys.UNDO), Keys.UNDO);
  }

  private static void prevAtTheOldest() {
    about("KEY_HIST_PREV. REFUSED if nav = 0.");
    for (int[] toLast : TO_LAST) {
      Twins.refused(Keys.run(OLDEST, toLast), Keys.PREV);
      Twins.refused(Keys.run(NO_LINES, toLast), Keys.PREV);
    }
  }

  private static void nextAtTheNewest() {
    about("KEY_HIST_NEXT. REFUSED if nav = hc.");
    for (int[] toLast : TO_LAST) {
      Twins.refused(Keys.run(NEWEST, toLast), Keys.NEXT);
      Twins.refused(Keys.run(NO_LINES, toLast), Keys.NEXT);
    }
  }

  private static void searchWithoutHistory() {
    about("KEY_SEARCH. REFUSED if hc = 0.");
    for (int[] toLast : TO_LAST) {
      Twins.refused(Keys.run(NO_LINES, toLast), Keys.SEARCH);
    }
  }

  private static void cancelInEditMode() {
    about("KEY_CANCEL. REFUSED.");
    for (int[] toLast : TO_LAST) {
      Twins.refused(Keys.run(BUSY, toLast), Keys.CANCEL);
    }
  }

  private static void unknownInEditMode() {
    about("Any code that is neither printable (32..126) nor one of the KEY_ constants is REFUSED in both modes.");
    for (int[] toLast : TO_LAST) {
      Twins.refused(Keys.run(BUSY, toLast), UNKNOWN);
    }
  }

  // A search over "xx" and a line of 32 chars, so that a match stands at p = 2 or later.
  private static int[] searching(Object... keys) {
    return Keys.run("xx" + Make.text(30), Keys.ENTER, BUSY, "+", Keys.LEFT, Keys.SEARCH, Keys.run(keys));
  }

  private static void fullQuery() {
    about("Printable c. REFUSED if |q| = MAX_QUERY.");
    Twins.refused(searching(Make.text(16)), Make.FULL.charAt(16), 'a', '~');
  }

  private static void charNotFound() {
    about("If there is none, the key is REFUSED. (a printable)");
    Twins.refused(searching(), '~', 'A');
    Twins.refused(searching('a'), '~', 'a', ' ');
    Twins.refused(searching(Make.text(15)), '~', 'a');
    Twins.refused(searching('t', 'h'), 't', 'w');
    Twins.refused(searching(Keys.SEARCH), '~');
  }

  private static void noOlderMatch() {
    about("If there is none, the key is REFUSED; for example, it is refused when m = 0. (KEY_SEARCH)");
    Twins.refused(searching('x', 'a'), Keys.SEARCH);
    Twins.refused(searching('t', 'h'), Keys.SEARCH);
    Twins.refused(searching(Make.text(16)), Keys.SEARCH);
    Twins.refused(searching(Keys.SEARCH, Keys.SEARCH, Keys.SEARCH), Keys.SEARCH);
  }

  private static void emptyQuery() {
    about("KEY_BACKSPACE. REFUSED if q is empty.");
    Twins.refused(searching(), Keys.BACKSPACE);
    Twins.refused(searching(Keys.SEARCH), Keys.BACKSPACE);
    Twins.refused(searching('h', Keys.BACKSPACE), Keys.BACKSPACE);
  }

  private static void otherKeysInSearchMode() {
    about("Every other code is REFUSED.");
    int[] others = Keys.run(UNKNOWN, Keys.LEFT, Keys.RIGHT, Keys.HOME, Keys.END, Keys.WORD_LEFT, Keys.WORD_RIGHT, Keys.DELETE,
        Keys.KILL_END, Keys.KILL_FWD, Keys.KILL_START, Keys.KILL_BACK, Keys.YANK, Keys.POP, Keys.UNDO, Keys.PREV, Keys.NEXT);
    Twins.refused(searching(), others);
    Twins.refused(searching('a', 'b'), others);
    Twins.refused(searching(Keys.SEARCH), others);
  }
}
