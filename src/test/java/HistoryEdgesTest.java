// Promise 2, "Edit mode": the history's ends, the draft, accepting lines and beginning a search.
public final class HistoryEdgesTest {
  public static void main(String[] args) {
    prevAtTheOldest();
    prevKeepsTheDraft();
    prevKeepsTheFirstDraft();
    prevCopies();
    prevEmptiesUndo();
    nextAtTheNewest();
    nextBackToTheDraft();
    nextInside();
    nextEmptiesUndo();
    enterIsNeverRefused();
    enterOfAnEmptyLine();
    enterAppends();
    enterAtAFullHistory();
    enterGrowsTheCount();
    enterResets();
    enterKeepsTheRest();
    searchWithoutHistory();
    searchBegins();
    searchKeeps();
    Expect.finish();
  }

  private static int nav(ReadlineEditor x) {
    return x.info(ReadlineEditor.INFO_NAV);
  }

  private static int depth(ReadlineEditor x) {
    return x.info(ReadlineEditor.INFO_UNDO_DEPTH);
  }

  private static void draft(String when, ReadlineEditor x, String want) {
    Expect.same(when + ": draft", Probe.draft(x), want);
    Expect.same(when + ": draft length", x.info(ReadlineEditor.INFO_DRAFT_LENGTH), want.length());
  }

  private static void prevAtTheOldest() {
    Expect.about("KEY_HIST_PREV. REFUSED if nav = 0.");
    ReadlineEditor none = Make.lines(3);
    Probe.refused(none, Keys.PREV);
    Probe.type(none, "ab");
    Probe.refused(none, Keys.PREV);
    ReadlineEditor one = Make.lines(1, "x", "y");
    Probe.press(one, Keys.PREV);
    Probe.line("from nav = 1", one, "y", 1);
    Probe.refused(one, Keys.PREV);
    Probe.type(one, "!");
    Probe.refused(one, Keys.PREV);
    ReadlineEditor two = Make.lines(3, "x", "y");
    Probe.press(two, Keys.PREV, Keys.PREV);
    Probe.line("from nav = 2", two, "x", 1);
    Probe.refused(two, Keys.PREV);
  }

  private static void prevKeepsTheDraft() {
    Expect.about("If nav = hc, draft becomes B.");
    int[] sizes = {0, 1, 31, 32};
    for (int size : sizes) {
      for (int k = 0; k <= size; k += Math.max(1, size)) {
        ReadlineEditor x = Make.lines(2, "x", "y");
        Probe.type(x, Make.text(size));
        Make.place(x, k);
        Probe.press(x, Keys.PREV);
        draft("a line of " + size, x, Make.text(size));
      }
    }
  }

  private static void prevKeepsTheFirstDraft() {
    Expect.about("If nav = hc, draft becomes B. (not if nav < hc)");
    ReadlineEditor x = Make.lines(3, "a", "b", "c");
    Probe.type(x, "half");
    Probe.press(x, Keys.PREV);
    Probe.type(x, "+");
    Probe.press(x, Keys.PREV);
    draft("from nav = hc-1", x, "half");
    Probe.press(x, Keys.NEXT);
    Probe.type(x, "+");
    Probe.press(x, Keys.PREV);
    draft("from nav = hc-1 again", x, "half");
    Probe.press(x, Keys.PREV);
    draft("from nav = 1", x, "half");
    Probe.press(x, Keys.NEXT, Keys.NEXT, Keys.NEXT);
    Probe.line("the draft is back", x, "half", 4);
    Probe.type(x, "!");
    Probe.press(x, Keys.PREV);
    draft("from nav = hc again", x, "half!");
  }

  private static void prevCopies() {
    Expect.about("Then nav decreases by 1, B becomes a copy of h[nav], k becomes the new n (the end of the new B)");
    ReadlineEditor x = Make.lines(4, "z", Make.text(31), Make.FULL, "yy");
    String[] due = {"yy", Make.FULL, Make.text(31), "z"};
    for (int i = 0; i < due.length; i++) {
      Probe.press(x, Keys.PREV);
      Probe.line("step " + i, x, due[i], due[i].length());
      Expect.same("nav", nav(x), 3 - i);
    }
    Probe.type(x, "+");
    Probe.press(x, Keys.HOME, Keys.DELETE);
    Probe.history("the entries are not typed into", x, "z", Make.text(31), Make.FULL, "yy");
    ReadlineEditor over = Make.lines(1, "short");
    Probe.type(over, Make.FULL);
    Make.place(over, 0);
    Probe.press(over, Keys.PREV);
    Probe.line("from a full line with k = 0", over, "short", 5);
    Parts.changed(Make.withLast(ReadlineEditor.LAST_KILL), Keys.PREV, "B", "k", "nav", "undo", "last");
    ReadlineEditor first = Make.lines(1, "short");
    Probe.type(first, "half");
    Parts.changed(first, Keys.PREV, "B", "k", "nav", "draft", "undo", "last");
  }

  private static void prevEmptiesUndo() {
    Expect.about("and the undo stack is emptied (KEY_HIST_PREV)");
    ReadlineEditor x = Make.lines(2, "a", "b");
    Probe.press(x, Keys.PREV);
    Expect.same("depth from 0", depth(x), 0);
    Make.fillUndo(x);
    Probe.press(x, Keys.PREV);
    Expect.same("depth from 8", depth(x), 0);
    Probe.refused(x, Keys.UNDO);
    Probe.type(x, "c");
    Expect.same("depth from 0 on", depth(x), 1);
    Expect.same("level 0", Probe.undo(x, 0), "a");
  }

  private static void nextAtTheNewest() {
    Expect.about("KEY_HIST_NEXT. REFUSED if nav = hc.");
    ReadlineEditor none = Make.lines(3);
    Probe.refused(none, Keys.NEXT);
    Probe.type(none, "ab");
    Probe.refused(none, Keys.NEXT);
    int[] caps = {1, 2, 8};
    for (int cap : caps) {
      ReadlineEditor x = Make.lines(cap, "a", "b", "c");
      Probe.refused(x, Keys.NEXT);
      Probe.type(x, "half");
      Probe.refused(x, Keys.NEXT);
      Probe.press(x, Keys.PREV, Keys.NEXT);
      Probe.line("from nav = hc-1", x, "half", 4);
      Probe.refused(x, Keys.NEXT);
    }
  }

  private static void nextBackToTheDraft() {
    Expect.about("If now nav = hc, B becomes draft and draft becomes empty");
    int[] sizes = {0, 1, 31, 32};
    for (int size : sizes) {
      ReadlineEditor x = Make.lines(2, "x", "y");
      Probe.type(x, Make.text(size));
      Make.place(x, 0);
      Probe.press(x, Keys.PREV, Keys.PREV, Keys.NEXT);
      draft("one short", x, Make.text(size));
      Probe.press(x, Keys.NEXT);
      Probe.line("a draft of " + size, x, Make.text(size), size);
      draft("after it", x, "");
      Expect.same("nav", nav(x), 2);
    }
    ReadlineEditor x = Make.lines(1, "x");
    Probe.type(x, "half");
    Probe.press(x, Keys.PREV);
    Parts.changed(x, Keys.NEXT, "B", "k", "nav", "draft");
  }

  private static void nextInside() {
    Expect.about("otherwise B becomes a copy of h[nav]. Then k becomes the new n (the end of the new B)");
    ReadlineEditor x = Make.lines(4, "z", Make.FULL, Make.text(31), "y");
    Probe.type(x, "half");
    Make.times(x, 4, Keys.PREV);
    String[] due = {Make.FULL, Make.text(31), "y"};
    for (int i = 0; i < due.length; i++) {
      Probe.press(x, Keys.NEXT);
      Probe.line("step " + i, x, due[i], due[i].length());
      Expect.same("nav", nav(x), i + 1);
      draft("step " + i, x, "half");
    }
    Probe.type(x, "+");
    Probe.history("the entries are not typed into", x, "z", Make.FULL, Make.text(31), "y");
    ReadlineEditor inside = Make.withLast(ReadlineEditor.LAST_KILL);
    Probe.press(inside, Keys.PREV, 'x', Keys.LEFT);
    Parts.changed(inside, Keys.NEXT, "B", "k", "nav", "undo");
  }

  private static void nextEmptiesUndo() {
    Expect.about("and the undo stack is emptied (KEY_HIST_NEXT)");
    ReadlineEditor x = Make.lines(2, "a", "b");
    Probe.type(x, "c");
    Probe.press(x, Keys.PREV, Keys.PREV);
    Make.fillUndo(x);
    Probe.press(x, Keys.NEXT);
    Expect.same("depth from 8, to an entry", depth(x), 0);
    Make.fillUndo(x);
    Probe.press(x, Keys.NEXT);
    Expect.same("depth from 8, to the draft", depth(x), 0);
    Probe.refused(x, Keys.UNDO);
    Probe.press(x, Keys.PREV, Keys.NEXT);
    Expect.same("depth from 0", depth(x), 0);
  }

  private static void enterIsNeverRefused() {
    Expect.about("KEY_ENTER. Never refused in edit mode.");
    int[] sizes = {0, 1, 31, 32};
    for (int size : sizes) {
      ReadlineEditor x = Make.line(Make.text(size), 0);
      for (int count = 1; count <= 12; count++) {
        Probe.press(x, Keys.ENTER);
        Expect.same("accepted", x.info(ReadlineEditor.INFO_ACCEPTED), count);
      }
    }
    for (int last : Make.LASTS) {
      Probe.press(Make.withLast(last), Keys.ENTER);
    }
    ReadlineEditor oldest = Make.lines(2, "a", "b");
    Probe.press(oldest, Keys.PREV, Keys.PREV, Keys.ENTER);
  }

  private static void enterOfAnEmptyLine() {
    Expect.about("If n > 0, B is appended as the newest history entry. (not if n = 0)");
    ReadlineEditor x = Make.lines(2);
    Probe.press(x, Keys.ENTER);
    Probe.history("no line at all", x);
    Expect.same("nav without history", nav(x), 0);
    Probe.enter(x, "a");
    Probe.press(x, Keys.ENTER);
    Probe.history("below H", x, "a");
    Probe.enter(x, "b");
    Probe.press(x, Keys.ENTER);
    Probe.history("at H, where none is dropped", x, "a", "b");
    Probe.type(x, "c");
    Probe.press(x, Keys.BACKSPACE, Keys.ENTER);
    Probe.history("a line emptied again", x, "a", "b");
    Probe.type(x, " ");
    Probe.press(x, Keys.ENTER);
    Probe.history("n = 1, a space", x, "b", " ");
  }

  private static void enterAppends() {
    Expect.about("If n > 0, B is appended as the newest history entry.");
    int[] sizes = {1, 31, 32};
    for (int size : sizes) {
      for (int k = 0; k <= size; k += size) {
        ReadlineEditor x = Make.lines(2, "a");
        Probe.type(x, Make.text(size));
        Make.place(x, k);
        Probe.press(x, Keys.ENTER);
        Probe.history("all of " + size + " from k = " + k, x, "a", Make.text(size));
      }
    }
    ReadlineEditor twice = Make.lines(3, "a", "a");
    Probe.history("the same line twice", twice, "a", "a");
  }

  private static void enterAtAFullHistory() {
    Expect.about("If hc = H at that point, h[0] is dropped first and index i of the others becomes i-1.");
    for (int cap = 1; cap <= 8; cap++) {
      ReadlineEditor x = Make.lines(cap);
      for (int count = 1; count <= cap + 3; count++) {
        Probe.enter(x, "line" + "+".repeat(count));
        int kept = Math.min(count, cap);
        for (int i = 0; i < kept; i++) {
          Expect.same("entry " + i + " of " + kept, Probe.entry(x, i), "line" + "+".repeat(count - kept + 1 + i));
        }
        Expect.same("none past them", Probe.entry(x, kept), "");
      }
    }
    ReadlineEditor stepped = Make.lines(3, "a", "b", "c");
    Probe.press(stepped, Keys.PREV, Keys.PREV, Keys.PREV, Keys.ENTER);
    Probe.history("the dropped line itself, accepted again from nav = 0", stepped, "b", "c", "a");
    Probe.press(stepped, Keys.PREV, Keys.PREV, Keys.ENTER);
    Probe.history("accepted again from nav = 1", stepped, "c", "a", "c");
    ReadlineEditor longest = Make.lines(8);
    for (int i = 0; i < 9; i++) {
      Probe.enter(longest, Make.text(31) + i);
    }
    for (int i = 0; i < 8; i++) {
      Expect.same("a moved entry of 32 chars", Probe.entry(longest, i), Make.text(31) + (i + 1));
    }
    ReadlineEditor lengths = Make.lines(2, Make.FULL, "a", Make.text(31), "b");
    Probe.history("long and short ones", lengths, Make.text(31), "b");
  }

  private static void enterGrowsTheCount() {
    Expect.about("So hc grows by one unless it was already H.");
    for (int cap = 1; cap <= 8; cap++) {
      ReadlineEditor x = Make.lines(cap);
      for (int count = 1; count <= cap + 3; count++) {
        Probe.enter(x, "line");
        Expect.same("hc after " + count + " at H = " + cap, x.info(ReadlineEditor.INFO_HISTORY_COUNT), Math.min(count, cap));
      }
    }
  }

  private static void enterResets() {
    Expect.about("Then, in all cases, B becomes empty, k becomes 0, nav becomes the new hc, draft becomes empty, the undo stack is emptied, and accepted increases by 1.");
    int[] caps = {1, 2, 3};
    for (int cap : caps) {
      for (int emptied = 0; emptied <= 1; emptied++) {
        ReadlineEditor x = Make.lines(cap, "one", "two");
        Probe.type(x, "half");
        Probe.press(x, Keys.PREV);
        Make.fillUndo(x);
        if (emptied == 1) {
          Probe.press(x, Keys.KILL_START);
        }
        Probe.press(x, Keys.ENTER);
        Probe.line("after ENTER", x, "", 0);
        int hc = Math.min(cap, 3 - emptied);
        Expect.same("hc", x.info(ReadlineEditor.INFO_HISTORY_COUNT), hc);
        Expect.same("nav is the new hc", nav(x), hc);
        draft("after ENTER", x, "");
        Expect.same("depth", depth(x), 0);
        Expect.same("accepted", x.info(ReadlineEditor.INFO_ACCEPTED), 3);
        Probe.last("after ENTER", x, ReadlineEditor.LAST_OTHER);
      }
    }
  }

  private static void enterKeepsTheRest() {
    Expect.about("Unless a rule above says otherwise, a key leaves everything else unchanged. (KEY_ENTER)");
    ReadlineEditor x = Make.withLast(ReadlineEditor.LAST_KILL);
    Parts.changed(x, Keys.ENTER, "B", "k", "nav", "draft", "undo", "accepted", "history", "last");
    Parts.changed(x, Keys.ENTER, "accepted");
    Probe.type(x, "c");
    Parts.changed(x, Keys.ENTER, "B", "k", "undo", "accepted", "history", "last");
  }

  private static void searchWithoutHistory() {
    Expect.about("KEY_SEARCH. REFUSED if hc = 0.");
    ReadlineEditor x = Make.lines(1);
    Probe.refused(x, Keys.SEARCH);
    Probe.type(x, "a");
    Probe.refused(x, Keys.SEARCH);
    Probe.press(x, Keys.BACKSPACE, Keys.ENTER);
    Probe.refused(x, Keys.SEARCH);
    Probe.enter(x, "a");
    Probe.press(x, Keys.SEARCH);
    Expect.same("hc = 1", x.info(ReadlineEditor.INFO_MODE), ReadlineEditor.MODE_SEARCH);
  }

  private static void searchBegins() {
    Expect.about("Otherwise mode becomes MODE_SEARCH, q becomes empty and m becomes -1.");
    ReadlineEditor x = Make.searching(2, "abc");
    Probe.press(x, 'a', 'b', Keys.ENTER, Keys.SEARCH);
    Probe.search("after a search that was taken", x, -1, 0, "?: abc", 3);
    Probe.press(x, 'c', Keys.CANCEL, Keys.SEARCH);
    Probe.search("after a search that was left", x, -1, 0, "?: abc", 3);
  }

  private static void searchKeeps() {
    Expect.about("B, k, nav, draft and the undo stack are kept; last becomes LAST_OTHER.");
    Parts.changed(Make.withLast(ReadlineEditor.LAST_OTHER), Keys.SEARCH, "mode");
    Parts.changed(Make.withLast(ReadlineEditor.LAST_INSERT), Keys.SEARCH, "mode", "last");
    Parts.changed(Make.withLast(ReadlineEditor.LAST_KILL), Keys.SEARCH, "mode", "last");
    Parts.changed(Make.withLast(ReadlineEditor.LAST_YANK), Keys.SEARCH, "mode", "last", "y");
    ReadlineEditor full = Make.lines(1, "a");
    Probe.type(full, Make.text(30));
    Make.fillUndo(full);
    Probe.type(full, "zz");
    Parts.changed(full, Keys.SEARCH, "mode", "last");
    Probe.press(full, Keys.CANCEL);
    Probe.line("a full line is kept", full, Make.text(30) + "zz", 32);
  }
}
