// Promise 2, search mode.
public final class SearchTest {
  public static void main(String[] args) {
    starting();
    growing();
    growingFromTheMatch();
    leastStart();
    longestQuery();
    entriesEndWhereTheyEnd();
    older();
    olderWithoutQuery();
    shrinking();
    entering();
    enteringWithoutMatch();
    cancelling();
    otherKeys();
    keepsTheLine();
    Expect.finish();
  }

  private static ReadlineEditor withLines(String... lines) {
    ReadlineEditor x = new ReadlineEditor(7, 8, 2);
    for (String line : lines) {
      Probe.enter(x, line);
    }
    return x;
  }

  private static ReadlineEditor searching(String... lines) {
    ReadlineEditor x = withLines(lines);
    Probe.press(x, ReadlineEditor.KEY_SEARCH);
    return x;
  }

  private static void starting() {
    ReadlineEditor none = withLines();
    Probe.type(none, "a");
    Probe.refused(none, ReadlineEditor.KEY_SEARCH);
    ReadlineEditor x = withLines("one");
    Probe.type(x, "abc");
    Probe.press(x, ReadlineEditor.KEY_LEFT);
    Probe.type(x, "-");
    Probe.press(x, ReadlineEditor.KEY_SEARCH);
    Probe.search("started", x, -1, 0, "?: ab-c", 6);
    Probe.last("started", x, ReadlineEditor.LAST_OTHER);
    Probe.line("started", x, "ab-c", 3);
    Expect.same("undo is kept", x.info(ReadlineEditor.INFO_UNDO_DEPTH), 2);
    Probe.picture("started", x);
  }

  private static void growing() {
    ReadlineEditor x = searching("git log", "make all", "git push");
    Probe.press(x, 'g');
    Probe.search("g", x, 2, 1, "?g: git push", 4);
    Probe.press(x, 'i', 't', ' ');
    Probe.search("git ", x, 2, 4, "?git : git push", 7);
    Probe.refused(x, 'x');
    Probe.press(x, 'l');
    Probe.search("git l", x, 0, 5, "?git l: git log", 8);
    Probe.refused(x, 'p', 'g' + 1);
    Probe.press(x, 'o', 'g');
    Probe.refused(x, 'g', ' ');
    Probe.search("git log", x, 0, 7, "?git log: git log", 10);
    Probe.picture("git log", x);
  }

  // A longer query never goes back to entries newer than the match.
  private static void growingFromTheMatch() {
    ReadlineEditor x = searching("ab", "a", "abc");
    Probe.press(x, 'a', ReadlineEditor.KEY_SEARCH);
    Probe.search("a, older", x, 1, 1, "?a: a", 4);
    Probe.refused(x, 'c');
    Probe.press(x, 'b');
    Probe.search("ab from the middle", x, 0, 2, "?ab: ab", 5);
    Probe.refused(x, 'c');
  }

  private static void leastStart() {
    ReadlineEditor x = searching("aab aaab");
    Probe.press(x, 'b');
    Probe.search("b", x, 0, 1, "?b: aab aaab", 6);
    Probe.press(x, ReadlineEditor.KEY_BACKSPACE, 'a', 'a', 'a', 'b');
    Probe.search("aaab", x, 0, 4, "?aaab: aab aaab", 11);
  }

  private static void longestQuery() {
    String line = "xabcdefghijklmnopqr";
    ReadlineEditor x = searching("older", line);
    Probe.type(x, line.substring(1, 17));
    Probe.search("16 chars", x, 1, 16, "?abcdefghijklmnop: " + line, 20);
    Probe.refused(x, 'q');
    Probe.picture("16 chars", x);
    Probe.press(x, ReadlineEditor.KEY_BACKSPACE, 'p');
    ReadlineEditor full = searching("abcdefghijklmnopqrstuvwxyz012345");
    Probe.type(full, "qrstuvwxyz012345");
    Probe.search("the longest display", full, 0, 16,
        "?qrstuvwxyz012345: abcdefghijklmnopqrstuvwxyz012345", 35);
    Probe.picture("the longest display", full);
    ReadlineEditor whole = searching("short");
    Probe.type(whole, "short");
    Probe.refused(whole, 's');
  }

  // A short entry in the place of a longer one, and beside another, matches in itself alone.
  private static void entriesEndWhereTheyEnd() {
    ReadlineEditor x = new ReadlineEditor(7, 1, 2);
    Probe.enter(x, "abcd");
    Probe.enter(x, "ab");
    Probe.press(x, ReadlineEditor.KEY_SEARCH);
    Probe.refused(x, 'c', 'd');
    Probe.press(x, 'a', 'b');
    Probe.refused(x, 'c');
    ReadlineEditor full = searching("abcdefghijklmnopqrstuvwxyz012345", "6789");
    Probe.press(full, '5');
    Probe.refused(full, '6');
  }

  private static void older() {
    ReadlineEditor x = searching("xa", "b", "ya", "cc", "a");
    Probe.press(x, 'a');
    Probe.search("newest", x, 4, 1, "?a: a", 4);
    Probe.press(x, ReadlineEditor.KEY_SEARCH);
    Probe.search("older", x, 2, 1, "?a: ya", 5);
    Probe.press(x, ReadlineEditor.KEY_SEARCH);
    Probe.search("oldest", x, 0, 1, "?a: xa", 5);
    Probe.refused(x, ReadlineEditor.KEY_SEARCH);
    ReadlineEditor z = searching("b", "a");
    Probe.press(z, 'a');
    Probe.refused(z, ReadlineEditor.KEY_SEARCH);
  }

  private static void olderWithoutQuery() {
    ReadlineEditor x = searching("ab", "c");
    Probe.press(x, ReadlineEditor.KEY_SEARCH);
    Probe.search("the newest of all", x, 1, 0, "?: c", 3);
    Probe.press(x, ReadlineEditor.KEY_SEARCH);
    Probe.search("the one before", x, 0, 0, "?: ab", 3);
    Probe.refused(x, ReadlineEditor.KEY_SEARCH, ReadlineEditor.KEY_BACKSPACE, 'c');
    Probe.press(x, 'b');
    Probe.search("b from there", x, 0, 1, "?b: ab", 5);
  }

  private static void shrinking() {
    ReadlineEditor x = searching("a-ab", "ab");
    Probe.refused(x, ReadlineEditor.KEY_BACKSPACE);
    Probe.press(x, 'a', 'b', ReadlineEditor.KEY_SEARCH);
    Probe.search("ab, older", x, 0, 2, "?ab: a-ab", 7);
    Probe.press(x, ReadlineEditor.KEY_BACKSPACE);
    Probe.search("a, match kept", x, 0, 1, "?a: a-ab", 4);
    Probe.press(x, ReadlineEditor.KEY_BACKSPACE);
    Probe.search("nothing, match kept", x, 0, 0, "?: a-ab", 3);
    Probe.refused(x, ReadlineEditor.KEY_BACKSPACE);
    Probe.press(x, 'b', ReadlineEditor.KEY_BACKSPACE);
    Probe.search("from the middle to nothing", x, 0, 0, "?: a-ab", 3);
    Probe.picture("shrunk", x);
  }

  private static void edited(String when, ReadlineEditor x) {
    Expect.same(when + ": mode", x.info(ReadlineEditor.INFO_MODE), ReadlineEditor.MODE_EDIT);
    Expect.same(when + ": match", x.info(ReadlineEditor.INFO_MATCH), -1);
    Expect.same(when + ": query length", x.info(ReadlineEditor.INFO_QUERY_LENGTH), 0);
    Probe.picture(when, x);
  }

  private static void entering() {
    ReadlineEditor x = withLines("one two", "three");
    Probe.type(x, "draft");
    Probe.press(x, ReadlineEditor.KEY_HIST_PREV);
    Probe.type(x, "+");
    Probe.press(x, ReadlineEditor.KEY_SEARCH, 't', 'w', ReadlineEditor.KEY_ENTER);
    edited("entered", x);
    Probe.line("entered", x, "one two", 4);
    Expect.same("entered: display", Probe.display(x), "> one two");
    Expect.same("entered: undo depth", x.info(ReadlineEditor.INFO_UNDO_DEPTH), 0);
    Expect.same("entered: nav", x.info(ReadlineEditor.INFO_NAV), 1);
    Expect.same("entered: draft", Probe.draft(x), "draft");
    Expect.same("entered: accepted", x.info(ReadlineEditor.INFO_ACCEPTED), 2);
    Probe.last("entered", x, ReadlineEditor.LAST_OTHER);
    Probe.history("entered", x, "one two", "three");
    Probe.press(x, ReadlineEditor.KEY_SEARCH);
    Probe.search("a later search starts empty", x, -1, 0, "?: one two", 7);
  }

  private static void enteringWithoutMatch() {
    ReadlineEditor x = withLines("one");
    Probe.type(x, "ab");
    Probe.press(x, ReadlineEditor.KEY_LEFT, ReadlineEditor.KEY_SEARCH, ReadlineEditor.KEY_ENTER);
    edited("no match", x);
    Probe.line("no match", x, "ab", 1);
    Expect.same("no match: undo depth", x.info(ReadlineEditor.INFO_UNDO_DEPTH), 1);
    Expect.same("no match: accepted", x.info(ReadlineEditor.INFO_ACCEPTED), 1);
    Probe.history("no match", x, "one");
  }

  private static void cancelling() {
    ReadlineEditor x = withLines("one");
    Probe.type(x, "ab");
    Probe.press(x, ReadlineEditor.KEY_LEFT);
    String before = Probe.everything(x);
    Probe.press(x, ReadlineEditor.KEY_SEARCH, 'n', ReadlineEditor.KEY_CANCEL);
    edited("cancelled", x);
    Expect.same("everything after a cancelled search", Probe.everything(x), before);
    Probe.refused(x, ReadlineEditor.KEY_CANCEL);
    Probe.press(x, ReadlineEditor.KEY_SEARCH, ReadlineEditor.KEY_CANCEL);
    Expect.same("everything after a search of nothing", Probe.everything(x), before);
  }

  private static void otherKeys() {
    ReadlineEditor x = withLines("one two");
    Probe.type(x, "ab cd");
    Probe.press(x, ReadlineEditor.KEY_KILL_WORD_BACK, ReadlineEditor.KEY_LEFT, ReadlineEditor.KEY_SEARCH);
    int[] others = {1, 2, 4, 5, 6, 11, 14, 16, 21, 23, 25, 31, 200, 201, 202, 203};
    Probe.refused(x, others);
    Probe.press(x, 't');
    Probe.refused(x, others);
  }

  private static void keepsTheLine() {
    ReadlineEditor x = withLines("one", "two");
    Probe.type(x, "ab cd");
    Probe.press(x, ReadlineEditor.KEY_KILL_WORD_BACK, ReadlineEditor.KEY_SEARCH);
    Probe.last("a search ends the chain", x, ReadlineEditor.LAST_OTHER);
    Probe.press(x, 'o', ReadlineEditor.KEY_SEARCH, 'n', ReadlineEditor.KEY_BACKSPACE);
    Probe.line("during the search", x, "ab ", 3);
    Expect.same("nav during the search", x.info(ReadlineEditor.INFO_NAV), 2);
    Probe.kills("during the search", x, "cd");
    Expect.same("undo depth during the search", x.info(ReadlineEditor.INFO_UNDO_DEPTH), 2);
    Probe.press(x, ReadlineEditor.KEY_CANCEL, ReadlineEditor.KEY_KILL_START);
    Probe.kills("a kill after the search", x, "ab ", "cd");
  }
}
