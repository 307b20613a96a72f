// Promise 2, "Search mode": each refusal, each limit and each end of the history there.
public final class SearchEdgesTest {
  public static void main(String[] args) {
    searchKeysKeepTheRest();
    queryFull();
    growFromTheNewest();
    growFromTheMatch();
    growDownToTheOldest();
    contiguous();
    entryEnds();
    nothingFound();
    leastStart();
    olderFromTheNewest();
    olderSkipsTheMatch();
    emptyQueryOccursEverywhere();
    olderRefused();
    olderLeastStart();
    olderKeepsTheQuery();
    shrinkRefused();
    shrinkByOne();
    shrinkToNothing();
    shrinkKeepsTheMatch();
    queryMeansMatch();
    enterWithMatch();
    enterEmptiesUndo();
    enterWithoutMatch();
    enterLeavesSearch();
    enterKeeps();
    cancelLeavesSearch();
    cancelKeepsTheLine();
    otherCodes();
    Expect.finish();
  }

  private static int match(ReadlineEditor x) {
    return x.info(ReadlineEditor.INFO_MATCH);
  }

  private static int start(ReadlineEditor x) {
    return x.info(ReadlineEditor.INFO_DISPLAY_CURSOR) - 3 - x.info(ReadlineEditor.INFO_QUERY_LENGTH);
  }

  private static void found(String when, ReadlineEditor x, String query, int match, int start) {
    Expect.same(when + ": q", Parts.query(x), query);
    Expect.same(when + ": |q|", x.info(ReadlineEditor.INFO_QUERY_LENGTH), query.length());
    Expect.same(when + ": m", match(x), match);
    Expect.same(when + ": p", start(x), start);
  }

  // A search begun where every part of the state holds something: h = "one two", "two".
  private static ReadlineEditor busy() {
    ReadlineEditor x = Make.withLast(ReadlineEditor.LAST_YANK);
    Probe.press(x, Keys.SEARCH);
    return x;
  }

  private static void searchKeysKeepTheRest() {
    Expect.about("Search-mode keys never change B, k, nav, draft, last, the undo stack, the kill ring, history or accepted, except where KEY_ENTER says otherwise.");
    ReadlineEditor x = busy();
    Parts.changed(x, 't', "q", "m");
    Parts.changed(x, 'w', "q");
    Parts.changed(x, Keys.SEARCH, "m");
    Parts.changed(x, Keys.BACKSPACE, "q");
    Parts.changed(x, Keys.BACKSPACE, "q");
    Parts.changed(x, 'e', "q");
    Parts.changed(x, Keys.CANCEL, "mode", "q", "m");
    Parts.changed(x, Keys.SEARCH, "mode");
    Parts.changed(x, Keys.ENTER, "mode");
    Parts.changed(x, Keys.SEARCH, "mode");
    Parts.changed(x, Keys.SEARCH, "m");
    Parts.changed(x, Keys.CANCEL, "mode", "m");
  }

  private static void queryFull() {
    Expect.about("Printable c. REFUSED if |q| = MAX_QUERY.");
    String line = "a".repeat(32);
    ReadlineEditor x = Make.searching(2, line, line);
    Probe.type(x, line.substring(0, 15));
    found("15 chars", x, line.substring(0, 15), 1, 0);
    Probe.press(x, 'a');
    found("16 chars", x, line.substring(0, 16), 1, 0);
    Probe.refused(x, 'a', 'b', ' ');
    Probe.press(x, Keys.SEARCH);
    Probe.refused(x, 'a');
    Probe.press(x, Keys.BACKSPACE, 'a');
    found("16 chars again", x, line.substring(0, 16), 0, 0);
    Probe.refused(x, 'a');
  }

  private static void growFromTheNewest() {
    Expect.about("let from be m if m >= 0, else hc-1. (m = -1)");
    for (int count = 1; count <= 8; count++) {
      ReadlineEditor x = Make.lines(8);
      for (int i = 0; i < count; i++) {
        Probe.enter(x, "a");
      }
      Probe.press(x, Keys.SEARCH, 'a');
      found("the newest of " + count, x, "a", count - 1, 0);
    }
    ReadlineEditor dropped = Make.lines(2, "ab", "ac", "ad");
    Probe.press(dropped, Keys.SEARCH);
    Probe.refused(dropped, 'b');
    Probe.press(dropped, 'd');
    found("the newest of a full history", dropped, "d", 1, 1);
    ReadlineEditor stepped = Make.lines(3, "a", "ba", "ca");
    Probe.press(stepped, Keys.PREV, Keys.PREV, Keys.PREV, Keys.SEARCH, 'a');
    found("the newest, not the one at nav = 0", stepped, "a", 2, 1);
  }

  private static void growFromTheMatch() {
    Expect.about("let from be m if m >= 0, else hc-1. (m >= 0)");
    ReadlineEditor x = Make.searching(4, "abc", "ab", "abd", "abc");
    Probe.press(x, 'a', Keys.SEARCH);
    found("at m = 2", x, "a", 2, 0);
    Probe.press(x, 'b');
    found("m itself is looked at", x, "ab", 2, 0);
    Probe.press(x, 'c');
    found("m+1 is not looked at", x, "abc", 0, 0);
    ReadlineEditor oldest = Make.searching(2, "ab", "abc");
    Probe.press(oldest, Keys.SEARCH, Keys.SEARCH);
    found("at m = 0 without query", oldest, "", 0, 0);
    Probe.refused(oldest, 'c');
    Probe.press(oldest, 'b');
    found("m = 0 is looked at", oldest, "b", 0, 1);
    ReadlineEditor newest = Make.searching(2, "ab", "cd");
    Probe.press(newest, Keys.SEARCH);
    Probe.press(newest, 'd');
    found("m = hc-1 is looked at", newest, "d", 1, 1);
  }

  private static void growDownToTheOldest() {
    Expect.about("Take the greatest i with 0 <= i <= from such that s occurs in h[i] as contiguous chars.");
    ReadlineEditor x = Make.searching(4, "xb", "b", "ab", "b");
    Probe.press(x, 'a');
    found("i = 2", x, "a", 2, 0);
    ReadlineEditor oldest = Make.searching(4, "xb", "b", "ab", "b");
    Probe.press(oldest, 'x');
    found("i = 0", oldest, "x", 0, 0);
    ReadlineEditor greatest = Make.searching(4, "xb", "b", "ab", "b");
    Probe.press(greatest, 'b');
    found("i = 3, the greatest of four", greatest, "b", 3, 0);
  }

  private static void contiguous() {
    Expect.about("such that s occurs in h[i] as contiguous chars");
    ReadlineEditor x = Make.searching(3, "abc", "a-b", "ba");
    Probe.press(x, 'a', 'b');
    found("not with a gap, not turned round", x, "ab", 0, 0);
    ReadlineEditor upper = Make.searching(3, "ab", "AB");
    Probe.press(upper, 'a');
    found("not in the other case", upper, "a", 0, 0);
    Probe.refused(upper, 'B', 'c', 'a');
  }

  private static void entryEnds() {
    Expect.about("such that s occurs in h[i] as contiguous chars (the ends of an entry)");
    ReadlineEditor x = Make.searching(3, Make.FULL, "abc");
    Probe.press(x, 'a', 'b');
    found("at the start", x, "ab", 1, 0);
    Probe.press(x, 'c');
    found("the whole entry", x, "abc", 1, 0);
    Probe.press(x, 'd');
    found("one past the entry's end is in the older one", x, "abcd", 0, 0);
    ReadlineEditor end = Make.searching(3, Make.FULL, "6789");
    Probe.press(end, '4', '5');
    found("at the end of 32 chars", end, "45", 0, 30);
    Probe.refused(end, '6');
    ReadlineEditor one = Make.searching(1, "abc", "a");
    Probe.refused(one, 'b', 'c');
    Probe.press(one, 'a');
    Probe.refused(one, 'b', 'a');
    found("an entry of one char", one, "a", 0, 0);
  }

  private static void nothingFound() {
    Expect.about("If there is none, the key is REFUSED. (a printable)");
    ReadlineEditor x = Make.searching(8, "ab", "cd");
    Probe.refused(x, 'e', ' ', '~', 'A');
    Probe.press(x, 'c');
    Probe.refused(x, 'c', 'a', 'b');
    found("after refusals", x, "c", 1, 0);
    Probe.press(x, 'd');
    found("after the next char", x, "cd", 1, 0);
  }

  private static void leastStart() {
    Expect.about("q becomes s, m becomes i, and p becomes the least start index of s in h[i].");
    ReadlineEditor x = Make.searching(1, "xaaab aab");
    Probe.press(x, 'a');
    found("a", x, "a", 0, 1);
    Probe.press(x, 'a');
    found("aa, which overlaps itself", x, "aa", 0, 1);
    Probe.press(x, 'b');
    found("aab, further right", x, "aab", 0, 2);
    ReadlineEditor last = Make.searching(1, "aaaab");
    Probe.press(last, 'b');
    found("only at the last char", last, "b", 0, 4);
  }

  private static void olderFromTheNewest() {
    Expect.about("Let from be m-1 if m >= 0, else hc-1. (m = -1)");
    for (int count = 1; count <= 8; count++) {
      ReadlineEditor x = Make.lines(8);
      for (int i = 0; i < count; i++) {
        Probe.enter(x, "a");
      }
      Probe.press(x, Keys.SEARCH, Keys.SEARCH);
      found("the newest of " + count, x, "", count - 1, 0);
    }
    ReadlineEditor stepped = Make.lines(3, "a", "b", "c");
    Probe.press(stepped, Keys.PREV, Keys.PREV, Keys.PREV, Keys.SEARCH, Keys.SEARCH);
    found("the newest, not the one before nav = 0", stepped, "", 2, 0);
  }

  private static void olderSkipsTheMatch() {
    Expect.about("Let from be m-1 if m >= 0, else hc-1. (m >= 0)");
    ReadlineEditor x = Make.searching(4, "a", "b", "ca", "aa");
    Probe.press(x, 'a');
    found("at m = 3", x, "a", 3, 0);
    Probe.press(x, Keys.SEARCH);
    found("m-1 has it", x, "a", 2, 1);
    Probe.press(x, Keys.SEARCH);
    found("m-1 has it not, m-2 has it", x, "a", 0, 0);
    Probe.refused(x, Keys.SEARCH);
  }

  private static void emptyQueryOccursEverywhere() {
    Expect.about("The empty q occurs in every entry, at index 0.");
    ReadlineEditor x = Make.searching(8, "a", Make.FULL, " ", "~~");
    int[] due = {3, 2, 1, 0};
    for (int m : due) {
      Probe.press(x, Keys.SEARCH);
      found("an empty q", x, "", m, 0);
    }
    Probe.refused(x, Keys.SEARCH);
  }

  private static void olderRefused() {
    Expect.about("If there is none, the key is REFUSED; for example, it is refused when m = 0.");
    ReadlineEditor single = Make.searching(1, "a");
    Probe.press(single, Keys.SEARCH);
    Probe.refused(single, Keys.SEARCH);
    Probe.press(single, 'a');
    Probe.refused(single, Keys.SEARCH);
    ReadlineEditor two = Make.searching(2, "a", "a");
    Probe.press(two, 'a', Keys.SEARCH);
    found("m = 1 is one before", two, "a", 0, 0);
    Probe.refused(two, Keys.SEARCH);
    ReadlineEditor none = Make.searching(3, "b", "b", "a");
    Probe.press(none, 'a');
    Probe.refused(none, Keys.SEARCH);
    found("none older, though m = 2", none, "a", 2, 0);
  }

  private static void olderLeastStart() {
    Expect.about("Otherwise m becomes i, and p becomes the least start index of q in h[i].");
    ReadlineEditor x = Make.searching(3, "xxab ab", "ab", "xab");
    Probe.press(x, 'a', 'b');
    found("newest", x, "ab", 2, 1);
    Probe.press(x, Keys.SEARCH);
    found("older", x, "ab", 1, 0);
    Probe.press(x, Keys.SEARCH);
    found("oldest, the first of two places", x, "ab", 0, 2);
  }

  private static void olderKeepsTheQuery() {
    Expect.about("q is unchanged. (KEY_SEARCH)");
    ReadlineEditor x = Make.searching(3, Make.FULL, Make.FULL, Make.FULL);
    Probe.type(x, Make.text(16));
    Probe.press(x, Keys.SEARCH);
    found("16 chars", x, Make.text(16), 1, 0);
    Probe.press(x, Keys.BACKSPACE, Keys.SEARCH);
    found("15 chars", x, Make.text(15), 0, 0);
    Probe.refused(x, Keys.SEARCH);
    found("15 chars after a refusal", x, Make.text(15), 0, 0);
  }

  private static void shrinkRefused() {
    Expect.about("KEY_BACKSPACE. REFUSED if q is empty.");
    ReadlineEditor x = busy();
    Probe.refused(x, Keys.BACKSPACE);
    Probe.press(x, Keys.SEARCH);
    Probe.refused(x, Keys.BACKSPACE);
    Probe.press(x, 't', Keys.BACKSPACE);
    Probe.refused(x, Keys.BACKSPACE);
  }

  private static void shrinkByOne() {
    Expect.about("Otherwise q's last char is removed, and p becomes the least start index of the new q in h[m]");
    ReadlineEditor x = Make.searching(1, "a ab abc abcdefghijklmnop");
    Probe.type(x, "abcdefghijklmnop");
    found("16 chars", x, "abcdefghijklmnop", 0, 9);
    int[] starts = {0, 0, 2, 5, 9, 9, 9, 9, 9, 9, 9, 9, 9, 9, 9, 9};
    for (int size = 15; size >= 0; size--) {
      Probe.press(x, Keys.BACKSPACE);
      found(size + " chars", x, "abcdefghijklmnop".substring(0, size), 0, starts[size]);
    }
    ReadlineEditor newer = Make.searching(3, "ab", "xaxab", "zz");
    Probe.press(newer, 'a', 'b');
    found("m = 1", newer, "ab", 1, 3);
    Probe.press(newer, Keys.BACKSPACE);
    found("the place is the one in h[1]", newer, "a", 1, 1);
  }

  private static void shrinkToNothing() {
    Expect.about("(0 if q is now empty)");
    ReadlineEditor x = Make.searching(2, "xyb", "zb");
    Probe.press(x, 'b', Keys.BACKSPACE);
    found("from p = 1", x, "", 1, 0);
    Probe.press(x, 'x', 'y');
    found("two chars", x, "xy", 0, 0);
    Probe.press(x, Keys.BACKSPACE);
    found("one char left", x, "x", 0, 0);
    Probe.press(x, Keys.BACKSPACE, 'b', Keys.BACKSPACE);
    found("from p = 2", x, "", 0, 0);
  }

  private static void shrinkKeepsTheMatch() {
    Expect.about("m is unchanged. (KEY_BACKSPACE)");
    ReadlineEditor x = Make.searching(3, "ab", "a", "a");
    Probe.press(x, 'a', 'b');
    found("ab", x, "ab", 0, 0);
    Probe.press(x, Keys.BACKSPACE);
    found("a newer entry has the shorter q, and is not taken", x, "a", 0, 0);
    Probe.press(x, Keys.BACKSPACE);
    found("nor for no q", x, "", 0, 0);
  }

  private static void queryMeansMatch() {
    Expect.about("A non-empty q always means m >= 0.");
    ReadlineEditor x = Make.searching(3, "ab");
    Probe.refused(x, 'c');
    found("a refused first char", x, "", -1, 0);
    Probe.press(x, 'b');
    found("a first char", x, "b", 0, 1);
    Probe.press(x, Keys.CANCEL, Keys.SEARCH);
    found("a new search", x, "", -1, 0);
  }

  private static void enterWithMatch() {
    Expect.about("KEY_ENTER. If m >= 0, B becomes a copy of h[m], k becomes p, and the undo stack is emptied.");
    ReadlineEditor oldest = Make.searching(2, Make.FULL, "z");
    Probe.press(oldest, '5', Keys.ENTER);
    Probe.line("m = 0, p at the last of 32 chars", oldest, Make.FULL, 31);
    ReadlineEditor newest = Make.searching(2, Make.FULL, "~");
    Probe.press(newest, '~', Keys.ENTER);
    Probe.line("m = hc-1, an entry of one char, p = 0", newest, "~", 0);
    ReadlineEditor noQuery = Make.lines(2, "one", "two");
    Probe.type(noQuery, Make.FULL);
    Probe.press(noQuery, Keys.SEARCH, Keys.SEARCH, Keys.SEARCH, Keys.ENTER);
    Probe.line("a match without query", noQuery, "one", 0);
    Probe.press(noQuery, 'x');
    Probe.line("the copy is typed into", noQuery, "xone", 1);
    Probe.history("the entry is not", noQuery, "one", "two");
    ReadlineEditor shrunk = Make.searching(1, "xab");
    Probe.press(shrunk, 'b', Keys.BACKSPACE, Keys.ENTER);
    Probe.line("p of a shrunk query", shrunk, "xab", 0);
  }

  private static void enterEmptiesUndo() {
    Expect.about("and the undo stack is emptied (KEY_ENTER with m >= 0)");
    int[] pushes = {0, 1, 8};
    for (int count : pushes) {
      ReadlineEditor x = Make.lines(2, "abc");
      if (count == 1) {
        Probe.type(x, "q");
      } else if (count == 8) {
        Make.fillUndo(x);
      }
      Probe.press(x, Keys.SEARCH, 'c', Keys.ENTER);
      Expect.same("depth after " + count, x.info(ReadlineEditor.INFO_UNDO_DEPTH), 0);
      Probe.refused(x, Keys.UNDO);
    }
  }

  private static void enterWithoutMatch() {
    Expect.about("KEY_ENTER. If m >= 0, B becomes a copy of h[m], k becomes p (not if m = -1)");
    ReadlineEditor x = Make.lines(2, "abc");
    Probe.type(x, "line");
    Make.fillUndo(x);
    Probe.press(x, Keys.LEFT);
    String before = Probe.everything(x);
    Probe.press(x, Keys.SEARCH, Keys.ENTER);
    Expect.same("everything after an ENTER without match", Probe.everything(x), before);
    ReadlineEditor empty = Make.lines(2, "abc");
    Probe.press(empty, Keys.SEARCH, Keys.ENTER);
    Probe.line("an empty line stays empty", empty, "", 0);
    Probe.history("and is not accepted", empty, "abc");
  }

  private static void enterLeavesSearch() {
    Expect.about("Then, in all cases, mode becomes MODE_EDIT, q becomes empty and m becomes -1.");
    for (int matched = 0; matched <= 1; matched++) {
      ReadlineEditor x = busy();
      if (matched == 1) {
        Probe.press(x, 't', 'w');
      }
      Probe.press(x, Keys.ENTER);
      left("after an ENTER", x);
    }
  }

  private static void left(String when, ReadlineEditor x) {
    Expect.same(when + ": mode", x.info(ReadlineEditor.INFO_MODE), ReadlineEditor.MODE_EDIT);
    Expect.same(when + ": |q|", x.info(ReadlineEditor.INFO_QUERY_LENGTH), 0);
    Expect.same(when + ": m", match(x), -1);
    Probe.press(x, Keys.SEARCH);
    Expect.same(when + ", searching again: |q|", x.info(ReadlineEditor.INFO_QUERY_LENGTH), 0);
    Expect.same(when + ", searching again: m", match(x), -1);
  }

  private static void enterKeeps() {
    Expect.about("nav, draft and last are unchanged, and accepted is unchanged. The answer is OK.");
    ReadlineEditor x = busy();
    Probe.press(x, 't');
    Parts.changed(x, Keys.ENTER, "mode", "q", "m", "B", "k", "undo");
    ReadlineEditor noMatch = busy();
    Parts.changed(noMatch, Keys.ENTER, "mode");
    ReadlineEditor oldest = Make.lines(2, "one", "two");
    Probe.type(oldest, "half");
    Probe.press(oldest, Keys.PREV, Keys.PREV, Keys.SEARCH, 't');
    Parts.changed(oldest, Keys.ENTER, "mode", "q", "m", "B", "k");
    Expect.same("nav = 0 stays", oldest.info(ReadlineEditor.INFO_NAV), 0);
    Probe.refused(oldest, Keys.PREV);
    ReadlineEditor newest = Make.searching(2, "one", "two");
    Probe.press(newest, 'o', 'n');
    Parts.changed(newest, Keys.ENTER, "mode", "q", "m", "B");
    Expect.same("nav = hc stays", newest.info(ReadlineEditor.INFO_NAV), 2);
    Probe.refused(newest, Keys.NEXT);
    Probe.press(newest, Keys.PREV);
    Expect.same("the line from the search is the draft", Probe.draft(newest), "one");
  }

  private static void cancelLeavesSearch() {
    Expect.about("KEY_CANCEL. mode becomes MODE_EDIT, q becomes empty and m becomes -1.");
    ReadlineEditor none = busy();
    Probe.press(none, Keys.CANCEL);
    left("without match", none);
    ReadlineEditor matched = busy();
    Probe.press(matched, 't', 'w', Keys.CANCEL);
    left("with a match", matched);
    ReadlineEditor full = Make.searching(1, Make.FULL);
    Probe.type(full, Make.text(16));
    Probe.press(full, Keys.CANCEL);
    left("with a full query", full);
  }

  private static void cancelKeepsTheLine() {
    Expect.about("B and k were never touched during the search and remain as they were. The answer is OK.");
    String[] lines = {"", "a", Make.text(31), Make.FULL};
    for (String line : lines) {
      for (int k = 0; k <= line.length(); k += Math.max(1, line.length())) {
        ReadlineEditor x = Make.lines(2, "one", "two");
        Probe.type(x, line);
        Make.place(x, k);
        String before = Probe.everything(x);
        Probe.press(x, Keys.SEARCH, 'o', Keys.SEARCH, 'n', Keys.BACKSPACE, Keys.CANCEL);
        Probe.line("after the search", x, line, k);
        if (line.length() > 0) {
          Expect.same("everything after the search", Probe.everything(x), before);
        }
        Probe.refused(x, Keys.CANCEL);
      }
    }
  }

  private static boolean isSearchKey(int code) {
    return Keys.isPrintable(code) || code == 18 || code == 8 || code == 13 || code == 7;
  }

  private static void otherCodes() {
    Expect.about("Every other code is REFUSED.");
    ReadlineEditor begun = busy();
    ReadlineEditor matched = busy();
    Probe.press(matched, 't');
    for (int code = -260; code <= 520; code++) {
      if (!isSearchKey(code)) {
        Probe.refused(begun, code);
        Probe.refused(matched, code);
      }
    }
    Probe.refused(begun, Probe.FAR_CODES);
    Probe.refused(matched, Probe.FAR_CODES);
  }
}
