// "Terms and state": each limit there, one short of it and one past it.
public final class TermsEdgesTest {
  public static void main(String[] args) {
    widthLimits();
    historyLimits();
    ringLimits();
    bufferLimits();
    charLimits();
    cursorLimits();
    entryLimits();
    oldestFirst();
    navLimits();
    draftLimits();
    newestKillFirst();
    killEntryLimits();
    undoLimits();
    snapshotLimits();
    newestLevelFirst();
    fourLasts();
    queryLimits();
    matchLimits();
    acceptedCounts();
    wordChars();
    leftOverOtherChars();
    leftOverWordChars();
    rightOverOtherChars();
    rightOverWordChars();
    Expect.finish();
  }

  private static void widthLimits() {
    Expect.about("W is the width (4..16).");
    int[][] pairs = {{3, 4}, {4, 4}, {5, 5}, {15, 15}, {16, 16}, {17, 16}};
    for (int[] pair : pairs) {
      ReadlineEditor x = new ReadlineEditor(pair[0], 1, 1);
      Expect.same("W from " + pair[0], x.info(ReadlineEditor.INFO_WIDTH), pair[1]);
    }
  }

  private static void historyLimits() {
    Expect.about("H is the history capacity (1..8).");
    int[][] pairs = {{0, 1}, {1, 1}, {2, 2}, {7, 7}, {8, 8}, {9, 8}};
    for (int[] pair : pairs) {
      ReadlineEditor x = new ReadlineEditor(4, pair[0], 1);
      for (int count = 1; count <= 10; count++) {
        Probe.enter(x, "line " + count);
        int due = Math.min(count, pair[1]);
        Expect.same("hc after " + count + ", H from " + pair[0], x.info(ReadlineEditor.INFO_HISTORY_COUNT), due);
      }
    }
  }

  private static void ringLimits() {
    Expect.about("R is the kill-ring capacity (1..4).");
    int[][] pairs = {{0, 1}, {1, 1}, {2, 2}, {3, 3}, {4, 4}, {5, 4}};
    for (int[] pair : pairs) {
      ReadlineEditor x = new ReadlineEditor(4, 1, pair[0]);
      for (int count = 1; count <= 6; count++) {
        Make.kill(x, "kill " + count);
        int due = Math.min(count, pair[1]);
        Expect.same("kc after " + count + ", R from " + pair[0], x.info(ReadlineEditor.INFO_KILL_COUNT), due);
      }
    }
  }

  private static void bufferLimits() {
    Expect.about("B is the buffer, a text of n chars (0..MAX_LINE), each a code 32..126.");
    ReadlineEditor x = Make.line("", 0);
    Probe.line("no char", x, "", 0);
    for (int size = 1; size <= 32; size++) {
      Probe.press(x, Make.FULL.charAt(size - 1));
      Probe.line(size + " chars", x, Make.text(size), size);
    }
    Probe.refused(x, 'x');
    Make.times(x, 31, Keys.BACKSPACE);
    Probe.line("back to one char", x, "a", 1);
    Probe.press(x, Keys.BACKSPACE);
    Probe.line("back to no char", x, "", 0);
    Probe.refused(x, Keys.BACKSPACE);
  }

  private static void charLimits() {
    Expect.about("B is the buffer, a text of n chars (0..MAX_LINE), each a code 32..126.");
    int[] taken = {32, 33, 125, 126};
    for (int code : taken) {
      ReadlineEditor x = Make.line("", 0);
      Probe.press(x, code);
      Expect.same("bufferChar after key(" + code + ")", x.bufferChar(0), code);
    }
    Probe.refused(Make.line("", 0), 31, 127);
  }

  private static void cursorLimits() {
    Expect.about("k is the cursor, 0..n.");
    int[] sizes = {1, 2, 31, 32};
    Probe.refused(Make.line("", 0), Keys.LEFT, Keys.RIGHT);
    for (int size : sizes) {
      ReadlineEditor x = Make.line(Make.text(size), 0);
      Probe.refused(x, Keys.LEFT);
      for (int k = 1; k <= size; k++) {
        Probe.press(x, Keys.RIGHT);
        Probe.line("step right", x, Make.text(size), k);
      }
      Probe.refused(x, Keys.RIGHT);
    }
  }

  private static void entryLimits() {
    Expect.about("Each entry has 1..MAX_LINE chars. (history)");
    ReadlineEditor x = Make.lines(8);
    Probe.press(x, Keys.ENTER);
    Probe.history("no char makes no entry", x);
    Probe.enter(x, "a");
    Probe.enter(x, Make.text(31));
    Probe.enter(x, Make.FULL);
    Probe.history("1, 31 and 32 chars", x, "a", Make.text(31), Make.FULL);
    Probe.type(x, Make.FULL);
    Probe.refused(x, 'x');
    Probe.press(x, Keys.ENTER);
    Expect.same("a 33rd char is in no entry", Probe.entry(x, 3), Make.FULL);
  }

  private static void oldestFirst() {
    Expect.about("History is h[0..hc-1], oldest first.");
    ReadlineEditor x = Make.lines(2);
    Probe.history("none", x);
    Probe.enter(x, "first");
    Probe.history("one", x, "first");
    Probe.enter(x, "second");
    Probe.history("two", x, "first", "second");
    Probe.enter(x, "third");
    Probe.history("one past H", x, "second", "third");
  }

  private static void navLimits() {
    Expect.about("nav is in 0..hc.");
    int[] caps = {1, 2, 7, 8};
    for (int cap : caps) {
      ReadlineEditor x = Make.lines(cap);
      for (int i = 0; i < 9; i++) {
        Probe.enter(x, "" + i);
      }
      Expect.same("nav at first", x.info(ReadlineEditor.INFO_NAV), cap);
      Probe.refused(x, Keys.NEXT);
      for (int nav = cap - 1; nav >= 0; nav--) {
        Probe.press(x, Keys.PREV);
        Expect.same("nav, stepping back", x.info(ReadlineEditor.INFO_NAV), nav);
      }
      Probe.refused(x, Keys.PREV);
      for (int nav = 1; nav <= cap; nav++) {
        Probe.press(x, Keys.NEXT);
        Expect.same("nav, stepping forth", x.info(ReadlineEditor.INFO_NAV), nav);
      }
      Probe.refused(x, Keys.NEXT);
    }
    ReadlineEditor none = Make.lines(3);
    Probe.refused(none, Keys.PREV, Keys.NEXT);
    Expect.same("nav without history", none.info(ReadlineEditor.INFO_NAV), 0);
  }

  private static void draftLimits() {
    Expect.about("draft is a text of 0..MAX_LINE chars: the line that was being typed before KEY_HIST_PREV.");
    int[] sizes = {0, 1, 31, 32};
    for (int size : sizes) {
      ReadlineEditor x = Make.lines(3, "line");
      Probe.type(x, Make.text(size));
      Probe.press(x, Keys.PREV);
      Expect.same("draft of " + size, Probe.draft(x), Make.text(size));
      Expect.same("its length", x.info(ReadlineEditor.INFO_DRAFT_LENGTH), size);
      Probe.press(x, Keys.NEXT);
      Probe.line("the draft of " + size + " is back", x, Make.text(size), size);
    }
  }

  private static void newestKillFirst() {
    Expect.about("Kill ring is e[0..kc-1], with e[0] newest.");
    ReadlineEditor x = Make.ring(2);
    Probe.kills("none", x);
    Make.kill(x, "first");
    Probe.kills("one", x, "first");
    Make.kill(x, "second");
    Probe.kills("two", x, "second", "first");
    Make.kill(x, "third");
    Probe.kills("one past R", x, "third", "second");
  }

  private static void killEntryLimits() {
    Expect.about("Each entry has 1..MAX_LINE chars. (kill ring)");
    ReadlineEditor x = Make.ring(4);
    Probe.refused(x, Keys.KILL_START, Keys.KILL_END, Keys.KILL_BACK, Keys.KILL_FWD);
    Make.kill(x, "a");
    Make.kill(x, Make.text(31));
    Make.kill(x, Make.FULL);
    Probe.kills("1, 31 and 32 chars", x, Make.FULL, Make.text(31), "a");
    Probe.refused(x, Keys.KILL_START, Keys.KILL_END, Keys.KILL_BACK, Keys.KILL_FWD);
  }

  private static void undoLimits() {
    Expect.about("Undo stack holds 0..UNDO_CAP snapshots, each a pair (text, cursor).");
    ReadlineEditor x = Make.line(Make.text(12), 12);
    for (int pushed = 2; pushed <= 10; pushed++) {
      Probe.press(x, Keys.BACKSPACE);
      Expect.same("depth after " + pushed + " pushes", x.info(ReadlineEditor.INFO_UNDO_DEPTH), Math.min(8, pushed));
    }
    for (int left = 7; left >= 0; left--) {
      Probe.press(x, Keys.UNDO);
      Expect.same("depth going down", x.info(ReadlineEditor.INFO_UNDO_DEPTH), left);
    }
    Probe.refused(x, Keys.UNDO);
  }

  private static void snapshotLimits() {
    Expect.about("Undo stack holds 0..UNDO_CAP snapshots, each a pair (text, cursor).");
    ReadlineEditor x = Make.line("", 0);
    Probe.type(x, Make.FULL);
    Expect.same("a snapshot of no char", Probe.undo(x, 0), "");
    Expect.same("and its cursor", x.undoCursor(0), 0);
    Probe.press(x, Keys.BACKSPACE);
    Expect.same("a snapshot of 32 chars", Probe.undo(x, 0), Make.FULL);
    Expect.same("and its cursor at the end", x.undoCursor(0), 32);
    Probe.press(x, Keys.HOME, Keys.DELETE);
    Expect.same("a snapshot of 31 chars", Probe.undo(x, 0), Make.text(31));
    Expect.same("and its cursor at the start", x.undoCursor(0), 0);
    Probe.press(x, Keys.UNDO);
    Probe.line("31 chars undone", x, Make.text(31), 0);
    Probe.press(x, Keys.UNDO);
    Probe.line("32 chars undone", x, Make.FULL, 32);
    Probe.press(x, Keys.UNDO);
    Probe.line("no char undone", x, "", 0);
  }

  private static void newestLevelFirst() {
    Expect.about("Level 0 is the newest.");
    ReadlineEditor x = Make.line("abc", 3);
    Probe.press(x, Keys.BACKSPACE);
    Expect.same("two levels", Parts.undo(x), "2: [abc]3 []0" + " []-1".repeat(7));
    Probe.press(x, Keys.BACKSPACE);
    Expect.same("three levels", Parts.undo(x), "3: [ab]2 [abc]3 []0" + " []-1".repeat(6));
    Probe.press(x, Keys.UNDO);
    Expect.same("two levels again", Parts.undo(x), "2: [abc]3 []0" + " []-1".repeat(7));
  }

  private static void fourLasts() {
    Expect.about("last is one of LAST_OTHER, LAST_INSERT, LAST_KILL, LAST_YANK.");
    ReadlineEditor x = Make.line("", 0);
    Probe.last("fresh", x, 0);
    Probe.press(x, 'a');
    Probe.last("typed", x, 1);
    Probe.press(x, Keys.KILL_START);
    Probe.last("killed", x, 2);
    Probe.press(x, Keys.YANK);
    Probe.last("yanked", x, 3);
    Probe.press(x, Keys.LEFT);
    Probe.last("moved", x, 0);
  }

  private static void queryLimits() {
    Expect.about("In search mode there is a query q (0..MAX_QUERY chars)");
    ReadlineEditor x = Make.searching(1, Make.FULL);
    Expect.same("no query yet", Parts.query(x), "");
    for (int size = 1; size <= 16; size++) {
      Probe.press(x, Make.FULL.charAt(size - 1));
      Expect.same("query of " + size, Parts.query(x), Make.text(size));
      Expect.same("its length", x.info(ReadlineEditor.INFO_QUERY_LENGTH), size);
    }
    Probe.refused(x, Make.FULL.charAt(16));
    for (int size = 15; size >= 0; size--) {
      Probe.press(x, Keys.BACKSPACE);
      Expect.same("query back to " + size, Parts.query(x), Make.text(size));
    }
    Probe.refused(x, Keys.BACKSPACE);
  }

  private static void matchLimits() {
    Expect.about("a match m (-1 or a history index)");
    int[] caps = {1, 2, 8};
    for (int cap : caps) {
      ReadlineEditor x = Make.lines(cap);
      for (int i = 0; i < 9; i++) {
        Probe.enter(x, "a" + i);
      }
      Probe.press(x, Keys.SEARCH);
      Expect.same("m at first", x.info(ReadlineEditor.INFO_MATCH), -1);
      for (int m = cap - 1; m >= 0; m--) {
        Probe.press(x, Keys.SEARCH);
        Expect.same("m, stepping back", x.info(ReadlineEditor.INFO_MATCH), m);
      }
      Probe.refused(x, Keys.SEARCH);
    }
  }

  private static void acceptedCounts() {
    Expect.about("accepted is the number of KEY_ENTER keys taken in edit mode.");
    ReadlineEditor x = Make.lines(1);
    for (int count = 0; count < 40; count++) {
      Expect.same("accepted", x.info(ReadlineEditor.INFO_ACCEPTED), count);
      Probe.enter(x, count % 3 == 0 ? "" : "a");
    }
    Probe.press(x, Keys.SEARCH, Keys.ENTER);
    Expect.same("not by an ENTER without match", x.info(ReadlineEditor.INFO_ACCEPTED), 40);
    Probe.press(x, Keys.SEARCH, 'a', Keys.ENTER);
    Expect.same("not by an ENTER with match", x.info(ReadlineEditor.INFO_ACCEPTED), 40);
    Probe.press(x, Keys.SEARCH, 'a', Keys.CANCEL, Keys.PREV, Keys.NEXT);
    Expect.same("not by other keys", x.info(ReadlineEditor.INFO_ACCEPTED), 40);
    Probe.press(x, Keys.ENTER);
    Expect.same("but by the next ENTER", x.info(ReadlineEditor.INFO_ACCEPTED), 41);
  }

  private static void wordChars() {
    Expect.about("A word char is 0-9, A-Z or a-z.");
    String inside = "09AZaz18BYby";
    String outside = "/:@[`{ ~_-";
    for (int i = 0; i < inside.length(); i++) {
      ReadlineEditor x = Make.line("b" + inside.charAt(i), 2);
      Probe.press(x, Keys.WORD_LEFT);
      Probe.line("left over a word char", x, "b" + inside.charAt(i), 0);
      Probe.press(x, Keys.WORD_RIGHT);
      Probe.line("right over a word char", x, "b" + inside.charAt(i), 2);
    }
    for (int i = 0; i < outside.length(); i++) {
      ReadlineEditor x = Make.line("b" + outside.charAt(i) + "b", 3);
      Probe.press(x, Keys.WORD_LEFT);
      Probe.line("left to another char", x, "b" + outside.charAt(i) + "b", 2);
      Probe.press(x, Keys.HOME, Keys.WORD_RIGHT);
      Probe.line("right to another char", x, "b" + outside.charAt(i) + "b", 1);
    }
  }

  private static void move(String text, int from, int code, int to) {
    ReadlineEditor x = Make.line(text, from);
    if (from == to) {
      Probe.refused(x, code);
    } else {
      Probe.press(x, code);
    }
    Probe.line("from " + from + " by " + code, x, text, to);
  }

  private static void leftOverOtherChars() {
    Expect.about("While t > 0 and B[t-1] is not a word char, t decreases by 1.");
    move("", 0, Keys.WORD_LEFT, 0);
    move("-", 0, Keys.WORD_LEFT, 0);
    move("-", 1, Keys.WORD_LEFT, 0);
    move("--", 2, Keys.WORD_LEFT, 0);
    move("--", 1, Keys.WORD_LEFT, 0);
    move("a-", 2, Keys.WORD_LEFT, 0);
    move("a--", 3, Keys.WORD_LEFT, 0);
    move("b a-", 4, Keys.WORD_LEFT, 2);
    move(" ".repeat(31), 31, Keys.WORD_LEFT, 0);
    move(" ".repeat(32), 32, Keys.WORD_LEFT, 0);
    move("a" + " ".repeat(31), 32, Keys.WORD_LEFT, 0);
  }

  private static void leftOverWordChars() {
    Expect.about("Then, while t > 0 and B[t-1] is a word char, t decreases by 1.");
    move("a", 0, Keys.WORD_LEFT, 0);
    move("a", 1, Keys.WORD_LEFT, 0);
    move("ab", 1, Keys.WORD_LEFT, 0);
    move("-a", 2, Keys.WORD_LEFT, 1);
    move("-a", 1, Keys.WORD_LEFT, 0);
    move("b a-", 3, Keys.WORD_LEFT, 2);
    move("b a-", 2, Keys.WORD_LEFT, 0);
    move("bb aa", 4, Keys.WORD_LEFT, 3);
    move("bb aa", 5, Keys.WORD_LEFT, 3);
    move(Make.FULL, 32, Keys.WORD_LEFT, 0);
    move(" " + Make.text(31), 32, Keys.WORD_LEFT, 1);
  }

  private static void rightOverOtherChars() {
    Expect.about("While t < n and B[t] is not a word char, t increases by 1.");
    move("", 0, Keys.WORD_RIGHT, 0);
    move("-", 1, Keys.WORD_RIGHT, 1);
    move("-", 0, Keys.WORD_RIGHT, 1);
    move("--", 0, Keys.WORD_RIGHT, 2);
    move("--", 1, Keys.WORD_RIGHT, 2);
    move("-a", 0, Keys.WORD_RIGHT, 2);
    move("--a", 0, Keys.WORD_RIGHT, 3);
    move("-a b", 0, Keys.WORD_RIGHT, 2);
    move(" ".repeat(31), 0, Keys.WORD_RIGHT, 31);
    move(" ".repeat(32), 0, Keys.WORD_RIGHT, 32);
    move(" ".repeat(31) + "a", 0, Keys.WORD_RIGHT, 32);
  }

  private static void rightOverWordChars() {
    Expect.about("Then, while t < n and B[t] is a word char, t increases by 1.");
    move("a", 1, Keys.WORD_RIGHT, 1);
    move("a", 0, Keys.WORD_RIGHT, 1);
    move("ab", 1, Keys.WORD_RIGHT, 2);
    move("a-", 0, Keys.WORD_RIGHT, 1);
    move("a-", 1, Keys.WORD_RIGHT, 2);
    move("-a b", 1, Keys.WORD_RIGHT, 2);
    move("-a b", 2, Keys.WORD_RIGHT, 4);
    move("aa bb", 1, Keys.WORD_RIGHT, 2);
    move("aa bb", 0, Keys.WORD_RIGHT, 2);
    move(Make.FULL, 0, Keys.WORD_RIGHT, 32);
    move(Make.text(31) + " ", 0, Keys.WORD_RIGHT, 31);
  }
}
