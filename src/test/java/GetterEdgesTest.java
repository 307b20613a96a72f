// Promises 3 to 9: each getter at the first and last place, one before, one past, and far outside.
public final class GetterEdgesTest {
  private static final int[] SIZES = {0, 1, 2, 31, 32};

  public static void main(String[] args) {
    otherSelectors();
    endSelectors();
    yankIndexByLast();
    matchInEditMode();
    queryInEditMode();
    bufferEnds();
    bufferWhileSearching();
    bufferAfterShrinking();
    draftEnds();
    draftAfterShrinking();
    historyEnds();
    historyIndexEnds();
    historyBesideOtherEntries();
    oldestEntry();
    killEnds();
    killIndexEnds();
    killBesideOtherEntries();
    newestKill();
    undoEnds();
    undoLevelEnds();
    undoAfterPopping();
    undoCursorEnds();
    displayEnds();
    displayEndsWhileSearching();
    displayAfterShrinking();
    nothingChanges();
    Expect.finish();
  }

  private static void ends(String what, Probe.Chars chars, String text) {
    int size = text.length();
    for (int pos = 0; pos < size; pos++) {
      Expect.same(what + " at " + pos + " of " + size, chars.at(pos), text.charAt(pos));
    }
    for (int pos = -70; pos <= -1; pos++) {
      Expect.same(what + " at " + pos + ", before the first", chars.at(pos), -1);
    }
    for (int pos = size; pos <= 70; pos++) {
      Expect.same(what + " at " + pos + ", past " + size, chars.at(pos), -1);
    }
    for (int far : Probe.FAR) {
      Expect.same(what + " at " + far, chars.at(far), far >= 0 && far < size ? text.charAt(far) : -1);
    }
  }

  private static void otherSelectors() {
    Expect.about("Any other selector, including negative ones, answers -1.");
    ReadlineEditor edit = Make.withLast(ReadlineEditor.LAST_YANK);
    ReadlineEditor search = Make.withLast(ReadlineEditor.LAST_OTHER);
    Probe.press(search, Keys.SEARCH, 't');
    for (int which = 16; which <= 300; which++) {
      Expect.same("info(" + which + ")", edit.info(which), -1);
      Expect.same("info(" + which + ")", search.info(which), -1);
    }
    for (int which = -300; which <= -1; which++) {
      Expect.same("info(" + which + ")", edit.info(which), -1);
      Expect.same("info(" + which + ")", search.info(which), -1);
    }
    int[] far = {
      Integer.MIN_VALUE, Integer.MIN_VALUE + 1, Integer.MAX_VALUE, Integer.MAX_VALUE - 1, 65536 + 14, (1 << 31) + 14
    };
    for (int which : far) {
      Expect.same("info(" + which + ")", edit.info(which), -1);
    }
  }

  private static void endSelectors() {
    Expect.about("INFO_MODE = 0 through INFO_DRAFT_LENGTH = 15");
    ReadlineEditor x = Make.lines(2, "abc");
    Probe.type(x, "half");
    Probe.press(x, Keys.PREV, Keys.SEARCH);
    Expect.same("info(-1)", x.info(-1), -1);
    Expect.same("info(0)", x.info(0), ReadlineEditor.MODE_SEARCH);
    Expect.same("info(1)", x.info(1), 3);
    Expect.same("info(14)", x.info(14), 16);
    Expect.same("info(15)", x.info(15), 4);
    Expect.same("info(16)", x.info(16), -1);
  }

  private static void yankIndexByLast() {
    Expect.about("y if last = LAST_YANK, else -1");
    for (int last : Make.LASTS) {
      int due = last == ReadlineEditor.LAST_YANK ? 0 : -1;
      Expect.same("y at last = " + last, Make.withLast(last).info(ReadlineEditor.INFO_YANK_INDEX), due);
    }
    ReadlineEditor x = Make.ring(4, "d", "c", "b", "a");
    Expect.same("y before a yank", x.info(ReadlineEditor.INFO_YANK_INDEX), -1);
    Probe.press(x, Keys.YANK);
    int[] due = {1, 2, 3, 0};
    for (int y : due) {
      Probe.press(x, Keys.POP);
      Expect.same("y after a pop", x.info(ReadlineEditor.INFO_YANK_INDEX), y);
    }
    Probe.press(x, Keys.POP, Keys.LEFT);
    Expect.same("y after a move", x.info(ReadlineEditor.INFO_YANK_INDEX), -1);
  }

  private static void matchInEditMode() {
    Expect.about("m (always -1 in edit mode)");
    ReadlineEditor x = Make.lines(2, "a");
    Expect.same("before", x.info(ReadlineEditor.INFO_MATCH), -1);
    Probe.press(x, Keys.SEARCH, 'a');
    Expect.same("during", x.info(ReadlineEditor.INFO_MATCH), 0);
    Probe.press(x, Keys.ENTER);
    Expect.same("after ENTER", x.info(ReadlineEditor.INFO_MATCH), -1);
    Probe.press(x, Keys.SEARCH, 'a', Keys.CANCEL);
    Expect.same("after CANCEL", x.info(ReadlineEditor.INFO_MATCH), -1);
  }

  private static void queryInEditMode() {
    Expect.about("|q| (always 0 in edit mode)");
    ReadlineEditor x = Make.lines(2, Make.FULL);
    Expect.same("before", x.info(ReadlineEditor.INFO_QUERY_LENGTH), 0);
    Probe.press(x, Keys.SEARCH);
    Expect.same("begun", x.info(ReadlineEditor.INFO_QUERY_LENGTH), 0);
    Probe.type(x, Make.text(16));
    Expect.same("full", x.info(ReadlineEditor.INFO_QUERY_LENGTH), 16);
    Probe.press(x, Keys.ENTER);
    Expect.same("after ENTER", x.info(ReadlineEditor.INFO_QUERY_LENGTH), 0);
    Probe.press(x, Keys.SEARCH, 'a', Keys.CANCEL);
    Expect.same("after CANCEL", x.info(ReadlineEditor.INFO_QUERY_LENGTH), 0);
  }

  private static void bufferEnds() {
    Expect.about("bufferChar(pos) answers B[pos] if 0 <= pos < n, else -1.");
    for (int size : SIZES) {
      ReadlineEditor x = Make.line(Make.text(size), size / 2);
      ends("bufferChar", x::bufferChar, Make.text(size));
    }
  }

  private static void bufferWhileSearching() {
    Expect.about("In search mode, B is the line from before the search, not the matched entry.");
    String[] lines = {"", "x", Make.FULL};
    for (String line : lines) {
      ReadlineEditor x = Make.lines(2, "one", "two");
      Probe.type(x, line);
      Probe.press(x, Keys.SEARCH);
      ends("bufferChar without match", x::bufferChar, line);
      Probe.press(x, 'n');
      ends("bufferChar with a match", x::bufferChar, line);
      Expect.same("n", x.info(ReadlineEditor.INFO_LENGTH), line.length());
      Probe.press(x, Keys.ENTER);
      ends("bufferChar after ENTER", x::bufferChar, "one");
    }
  }

  private static void bufferAfterShrinking() {
    Expect.about("bufferChar(pos) answers B[pos] if 0 <= pos < n, else -1. (chars that were cut off)");
    ReadlineEditor x = Make.line(Make.FULL, 32);
    Probe.press(x, Keys.BACKSPACE);
    ends("after a backspace", x::bufferChar, Make.text(31));
    Probe.press(x, Keys.HOME, Keys.RIGHT, Keys.KILL_END);
    ends("after a kill", x::bufferChar, "a");
    Probe.press(x, Keys.ENTER);
    ends("after ENTER", x::bufferChar, "");
  }

  private static void draftEnds() {
    Expect.about("draftChar(pos) answers draft[pos] if 0 <= pos < the length of draft, else -1.");
    for (int size : SIZES) {
      ReadlineEditor x = Make.lines(2, "entry");
      Probe.type(x, Make.text(size));
      ends("before", x::draftChar, "");
      Probe.press(x, Keys.PREV);
      ends("draftChar", x::draftChar, Make.text(size));
      Probe.press(x, Keys.SEARCH, 'e');
      ends("draftChar in search mode", x::draftChar, Make.text(size));
    }
  }

  private static void draftAfterShrinking() {
    Expect.about("draftChar(pos) answers draft[pos] if 0 <= pos < the length of draft, else -1. (a draft that was longer)");
    ReadlineEditor x = Make.lines(2, "entry");
    Probe.type(x, Make.FULL);
    Probe.press(x, Keys.PREV, Keys.NEXT);
    ends("taken back", x::draftChar, "");
    Probe.press(x, Keys.BACKSPACE, Keys.PREV);
    ends("one char shorter", x::draftChar, Make.text(31));
    Probe.press(x, Keys.ENTER);
    ends("after ENTER", x::draftChar, "");
  }

  private static void historyEnds() {
    Expect.about("historyChar(idx, pos) answers h[idx][pos] if 0 <= idx < hc and 0 <= pos < |h[idx]|, else -1. (pos)");
    ReadlineEditor x = Make.lines(4, "z", Make.text(2), Make.text(31), Make.FULL);
    String[] due = {"z", Make.text(2), Make.text(31), Make.FULL};
    for (int idx = 0; idx < 4; idx++) {
      int at = idx;
      ends("entry " + idx, pos -> x.historyChar(at, pos), due[idx]);
    }
  }

  private static void indexEnds(String what, Probe.Chars first, int count) {
    for (int idx = -40; idx <= -1; idx++) {
      Expect.same(what + " " + idx + ", before the first", first.at(idx), -1);
    }
    for (int idx = 0; idx < count; idx++) {
      Expect.same(what + " " + idx + " of " + count + " is there", first.at(idx) == -1 ? 0 : 1, 1);
    }
    for (int idx = count; idx <= 40; idx++) {
      Expect.same(what + " " + idx + ", past " + count, first.at(idx), -1);
    }
    for (int far : Probe.FAR) {
      Expect.same(what + " " + far, first.at(far), -1);
    }
    // An index whose place in a long array comes round to a place that is there.
    for (int bit = 24; bit < 32; bit++) {
      Expect.same(what + " of bit " + bit, first.at(1 << bit), -1);
    }
  }

  private static void historyIndexEnds() {
    Expect.about("historyChar(idx, pos) answers h[idx][pos] if 0 <= idx < hc and 0 <= pos < |h[idx]|, else -1. (idx)");
    for (int cap = 1; cap <= 8; cap++) {
      ReadlineEditor x = Make.lines(cap);
      for (int count = 0; count <= cap + 1; count++) {
        indexEnds("entry", idx -> x.historyChar(idx, 0), Math.min(count, cap));
        Probe.enter(x, "line");
      }
    }
  }

  private static void historyBesideOtherEntries() {
    Expect.about("historyChar(idx, pos) answers h[idx][pos] if 0 <= idx < hc and 0 <= pos < |h[idx]|, else -1. (no char of another entry)");
    ReadlineEditor x = Make.lines(3, Make.FULL, Make.FULL, Make.FULL);
    for (int idx = 0; idx < 3; idx++) {
      Expect.same("before entry " + idx, x.historyChar(idx, -1), -1);
      Expect.same("an entry before " + idx, x.historyChar(idx, -32), -1);
      Expect.same("after entry " + idx, x.historyChar(idx, 32), -1);
    }
    ReadlineEditor shorter = Make.lines(1, Make.FULL, "ab");
    int at = 0;
    ends("a short entry in a long one's place", pos -> shorter.historyChar(at, pos), "ab");
  }

  private static void oldestEntry() {
    Expect.about("Index 0 is the oldest entry.");
    ReadlineEditor x = Make.lines(3);
    int[] due = {'a', 'a', 'a', 'b', 'c'};
    for (int count = 0; count < due.length; count++) {
      Probe.enter(x, "" + (char) ('a' + count));
      Expect.same("historyChar(0, 0) after " + (count + 1), x.historyChar(0, 0), due[count]);
    }
  }

  private static void killEnds() {
    Expect.about("killChar(idx, pos) answers e[idx][pos] if 0 <= idx < kc and 0 <= pos < |e[idx]|, else -1. (pos)");
    ReadlineEditor x = Make.ring(4, "z", Make.text(2), Make.text(31), Make.FULL);
    String[] due = {Make.FULL, Make.text(31), Make.text(2), "z"};
    for (int idx = 0; idx < 4; idx++) {
      int at = idx;
      ends("kill " + idx, pos -> x.killChar(at, pos), due[idx]);
    }
  }

  private static void killIndexEnds() {
    Expect.about("killChar(idx, pos) answers e[idx][pos] if 0 <= idx < kc and 0 <= pos < |e[idx]|, else -1. (idx)");
    for (int cap = 1; cap <= 4; cap++) {
      ReadlineEditor x = Make.ring(cap);
      for (int count = 0; count <= cap + 1; count++) {
        indexEnds("kill", idx -> x.killChar(idx, 0), Math.min(count, cap));
        Make.kill(x, "text");
      }
    }
  }

  private static void killBesideOtherEntries() {
    Expect.about("killChar(idx, pos) answers e[idx][pos] if 0 <= idx < kc and 0 <= pos < |e[idx]|, else -1. (no char of another entry)");
    ReadlineEditor x = Make.ring(3, Make.FULL, Make.FULL, Make.FULL);
    for (int idx = 0; idx < 3; idx++) {
      Expect.same("before kill " + idx, x.killChar(idx, -1), -1);
      Expect.same("a kill before " + idx, x.killChar(idx, -32), -1);
      Expect.same("after kill " + idx, x.killChar(idx, 32), -1);
    }
    ReadlineEditor shorter = Make.ring(1, Make.FULL, "ab");
    int at = 0;
    ends("a short kill in a long one's place", pos -> shorter.killChar(at, pos), "ab");
  }

  private static void newestKill() {
    Expect.about("Index 0 is the newest entry.");
    ReadlineEditor x = Make.ring(3);
    for (int code = 'a'; code <= 'e'; code++) {
      Make.kill(x, "" + (char) code);
      Expect.same("killChar(0, 0) after a kill", x.killChar(0, 0), code);
    }
  }

  private static void undoEnds() {
    Expect.about("undoChar(level, pos) answers char pos of the text of undo level level (0 newest) if both that level and that position exist, else -1. (pos)");
    for (int size : SIZES) {
      ReadlineEditor x = Make.ring(2, "kill");
      Probe.type(x, Make.text(size));
      Make.place(x, 0);
      if (size == 0) {
        Probe.press(x, 'x');
      } else {
        Probe.press(x, Keys.DELETE);
      }
      int level = 0;
      ends("undoChar", pos -> x.undoChar(level, pos), Make.text(size));
    }
  }

  private static void undoLevelEnds() {
    Expect.about("undoChar(level, pos) answers char pos of the text of undo level level (0 newest) if both that level and that position exist, else -1. (level)");
    ReadlineEditor x = Make.lines(1, Make.FULL);
    Probe.press(x, Keys.PREV);
    for (int pushed = 0; pushed <= 10; pushed++) {
      int depth = Math.min(8, pushed);
      indexEnds("undoChar at depth " + depth + ": level", level -> x.undoChar(level, 0), depth);
      indexEnds("undoCursor at depth " + depth + ": level", x::undoCursor, depth);
      for (int level = 0; level < depth; level++) {
        Expect.same("before level " + level, x.undoChar(level, -1), -1);
        Expect.same("after level " + level, x.undoChar(level, 32), -1);
      }
      Probe.press(x, Keys.BACKSPACE);
    }
  }

  private static void undoAfterPopping() {
    Expect.about("undoChar(level, pos) answers char pos of the text of undo level level (0 newest) if both that level and that position exist, else -1. (a level that is gone)");
    ReadlineEditor x = Make.line(Make.text(20), 20);
    Make.times(x, 10, Keys.BACKSPACE);
    for (int depth = 7; depth >= 0; depth--) {
      Probe.press(x, Keys.UNDO);
      indexEnds("undoChar at depth " + depth + ": level", level -> x.undoChar(level, 0), depth);
      indexEnds("undoCursor at depth " + depth + ": level", x::undoCursor, depth);
    }
    ReadlineEditor emptied = Make.lines(1, "a");
    Make.fillUndo(emptied);
    Probe.press(emptied, Keys.PREV);
    indexEnds("undoCursor of an emptied stack: level", emptied::undoCursor, 0);
  }

  private static void undoCursorEnds() {
    Expect.about("undoCursor(level) answers the cursor saved in undo level level (0 newest) if that level exists, else -1.");
    for (int k = 1; k <= 32; k++) {
      ReadlineEditor x = Make.line(Make.FULL, k);
      Probe.press(x, Keys.BACKSPACE);
      Expect.same("a saved cursor", x.undoCursor(0), k);
      Expect.same("the older level", x.undoCursor(1), 0);
      Expect.same("no level", x.undoCursor(2), -1);
    }
    ReadlineEditor start = Make.line(Make.FULL, 0);
    Probe.press(start, Keys.DELETE);
    Expect.same("a saved cursor of 0", start.undoCursor(0), 0);
    Expect.same("a fresh object", Make.line("", 0).undoCursor(0), -1);
  }

  private static void displayEnds() {
    Expect.about("displayChar(i) answers D[i] if 0 <= i < |D|, else -1, where D is the display text for the current mode. (edit mode)");
    for (int size : SIZES) {
      ReadlineEditor x = Make.line(Make.text(size), 0);
      ends("displayChar", x::displayChar, "> " + Make.text(size));
    }
  }

  private static void displayEndsWhileSearching() {
    Expect.about("displayChar(i) answers D[i] if 0 <= i < |D|, else -1, where D is the display text for the current mode. (search mode)");
    for (int size : SIZES) {
      ReadlineEditor x = Make.lines(2, "z" + Make.text(31));
      Probe.type(x, Make.text(size));
      Probe.press(x, Keys.SEARCH);
      ends("without match", x::displayChar, "?: " + Make.text(size));
      Probe.type(x, Make.text(Math.min(size, 16)));
      if (size > 0) {
        ends("with a match", x::displayChar, "?" + Make.text(Math.min(size, 16)) + ": z" + Make.text(31));
      }
    }
  }

  private static void displayAfterShrinking() {
    Expect.about("displayChar(i) answers D[i] if 0 <= i < |D|, else -1, where D is the display text for the current mode. (a shorter D)");
    ReadlineEditor x = Make.searching(2, Make.FULL);
    Probe.type(x, Make.text(16));
    Probe.press(x, Keys.BACKSPACE);
    ends("51 to 50", x::displayChar, "?" + Make.text(15) + ": " + Make.FULL);
    Probe.press(x, Keys.CANCEL);
    ends("50 to 2", x::displayChar, "> ");
  }

  private static void nothingChanges() {
    Expect.about("Nothing changes. (every getter, in range and out of range)");
    int[] lines = Keys.run("one two", Keys.ENTER, "two three", Keys.ENTER);
    int[] busy = Keys.run(lines, "kkk", Keys.KILL_START, "j", Keys.KILL_START, "half", Keys.PREV, "+", Keys.LEFT);
    Twins.untouchedBy("all the getters, fresh", Keys.run(), GetterEdgesTest::readAll);
    Twins.untouchedBy("all the getters, last other", busy, GetterEdgesTest::readAll);
    Twins.untouchedBy("all the getters, last insert", Keys.run(busy, "x"), GetterEdgesTest::readAll);
    Twins.untouchedBy("all the getters, last kill", Keys.run(busy, Keys.KILL_BACK), GetterEdgesTest::readAll);
    Twins.untouchedBy("all the getters, last yank", Keys.run(busy, Keys.YANK, Keys.POP), GetterEdgesTest::readAll);
    Twins.untouchedBy("all the getters, searching", Keys.run(busy, Keys.SEARCH), GetterEdgesTest::readAll);
    Twins.untouchedBy("all the getters, with a match", Keys.run(busy, Keys.SEARCH, "w"), GetterEdgesTest::readAll);
    for (int width = 4; width <= 16; width++) {
      ReadlineEditor x = new ReadlineEditor(width, 3, 3);
      readAll(x);
      Probe.press(x, busy);
      readAll(x);
    }
  }

  private static void readAll(ReadlineEditor x) {
    String before = Probe.everything(x);
    for (int a = -2; a <= 40; a++) {
      read(x, a, a);
      read(x, a, 0);
      read(x, 0, a);
    }
    for (int far : Probe.FAR) {
      read(x, far, far);
      read(x, far, 0);
      read(x, 0, far);
    }
    Expect.same("everything after all the getters", Probe.everything(x), before);
  }

  private static void read(ReadlineEditor x, int a, int b) {
    x.info(a);
    x.bufferChar(a);
    x.draftChar(a);
    x.historyChar(a, b);
    x.killChar(a, b);
    x.undoChar(a, b);
    x.undoCursor(a);
    x.displayChar(a);
    x.screenChar(a, b);
    x.screenCursorRow();
    x.screenCursorCol();
  }
}
