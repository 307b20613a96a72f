// Promise 2, edit mode: accepting lines and stepping through the history with a draft.
public final class HistoryTest {
  public static void main(String[] args) {
    accepting();
    emptyLineCounts();
    capacity();
    stepping();
    emptyDraft();
    editsOfEntriesAreLost();
    enterWhileStepping();
    ringAndLast();
    Expect.finish();
  }

  private static ReadlineEditor withLines(String... lines) {
    ReadlineEditor x = new ReadlineEditor(8, 3, 2);
    for (String line : lines) {
      Probe.enter(x, line);
    }
    return x;
  }

  private static void nav(String when, ReadlineEditor x, int want) {
    Expect.same(when + ": nav", x.info(ReadlineEditor.INFO_NAV), want);
  }

  private static void draft(String when, ReadlineEditor x, String want) {
    Expect.same(when + ": draft", Probe.draft(x), want);
    Expect.same(when + ": draft length", x.info(ReadlineEditor.INFO_DRAFT_LENGTH), want.length());
  }

  private static void depth(String when, ReadlineEditor x, int want) {
    Expect.same(when + ": undo depth", x.info(ReadlineEditor.INFO_UNDO_DEPTH), want);
  }

  private static void accepting() {
    ReadlineEditor x = withLines();
    Probe.type(x, "abc");
    Probe.press(x, ReadlineEditor.KEY_LEFT, ReadlineEditor.KEY_ENTER);
    Probe.line("accepted", x, "", 0);
    Probe.history("accepted", x, "abc");
    Probe.last("accepted", x, ReadlineEditor.LAST_OTHER);
    nav("accepted", x, 1);
    depth("accepted", x, 0);
    Expect.same("accepted count", x.info(ReadlineEditor.INFO_ACCEPTED), 1);
    Probe.enter(x, "abc");
    Probe.history("the same line again", x, "abc", "abc");
    nav("the same line again", x, 2);
  }

  private static void emptyLineCounts() {
    ReadlineEditor x = withLines("a");
    Probe.press(x, ReadlineEditor.KEY_ENTER, ReadlineEditor.KEY_ENTER);
    Probe.history("empty lines", x, "a");
    Expect.same("empty lines are accepted", x.info(ReadlineEditor.INFO_ACCEPTED), 3);
    nav("empty lines", x, 1);
    Probe.enter(x, " ");
    Probe.history("a space is a line", x, "a", " ");
  }

  private static void capacity() {
    String longest = "abcdefghijklmnopqrstuvwxyz012345";
    ReadlineEditor x = withLines("one", longest, "three", "four 4");
    Probe.history("four lines into three", x, longest, "three", "four 4");
    nav("four lines into three", x, 3);
    Probe.enter(x, "5");
    Probe.history("five lines into three", x, "three", "four 4", "5");
    Expect.same("five accepted", x.info(ReadlineEditor.INFO_ACCEPTED), 5);
    ReadlineEditor one = new ReadlineEditor(8, 1, 1);
    Probe.enter(one, "ab");
    Probe.enter(one, "c");
    Probe.history("history of one", one, "c");
    nav("history of one", one, 1);
  }

  private static void stepping() {
    ReadlineEditor x = withLines("one", "second");
    Probe.refused(x, ReadlineEditor.KEY_HIST_NEXT);
    Probe.type(x, "dr ft");
    Probe.press(x, ReadlineEditor.KEY_LEFT, ReadlineEditor.KEY_LEFT);
    Probe.type(x, "a");
    Probe.press(x, ReadlineEditor.KEY_HIST_PREV);
    Probe.line("one step back", x, "second", 6);
    Probe.last("one step back", x, ReadlineEditor.LAST_OTHER);
    nav("one step back", x, 1);
    draft("one step back", x, "dr aft");
    depth("one step back", x, 0);
    Probe.press(x, ReadlineEditor.KEY_HIST_PREV);
    Probe.line("two steps back", x, "one", 3);
    nav("two steps back", x, 0);
    draft("two steps back", x, "dr aft");
    Probe.refused(x, ReadlineEditor.KEY_HIST_PREV);
    Probe.type(x, "!");
    Probe.press(x, ReadlineEditor.KEY_HIST_NEXT);
    Probe.line("one step forth", x, "second", 6);
    depth("one step forth", x, 0);
    draft("one step forth", x, "dr aft");
    Probe.type(x, "!");
    Probe.press(x, ReadlineEditor.KEY_HIST_NEXT);
    Probe.line("back at the draft", x, "dr aft", 6);
    nav("back at the draft", x, 2);
    depth("back at the draft", x, 0);
    draft("back at the draft", x, "");
    Probe.last("back at the draft", x, ReadlineEditor.LAST_OTHER);
    Probe.refused(x, ReadlineEditor.KEY_HIST_NEXT, ReadlineEditor.KEY_UNDO);
    Probe.history("stepping", x, "one", "second");
    Expect.same("stepping accepts nothing", x.info(ReadlineEditor.INFO_ACCEPTED), 2);
  }

  private static void emptyDraft() {
    ReadlineEditor x = withLines("one");
    Probe.press(x, ReadlineEditor.KEY_HIST_PREV);
    draft("empty draft", x, "");
    Probe.press(x, ReadlineEditor.KEY_HIST_NEXT);
    Probe.line("empty draft", x, "", 0);
  }

  private static void editsOfEntriesAreLost() {
    ReadlineEditor x = withLines("one", "two");
    Probe.press(x, ReadlineEditor.KEY_HIST_PREV);
    Probe.type(x, "XX");
    Probe.history("an entry is a copy", x, "one", "two");
    Probe.press(x, ReadlineEditor.KEY_HIST_PREV, ReadlineEditor.KEY_HIST_NEXT);
    Probe.line("the edit is lost", x, "two", 3);
  }

  private static void enterWhileStepping() {
    ReadlineEditor x = withLines("one", "two");
    Probe.type(x, "draft");
    Probe.press(x, ReadlineEditor.KEY_HIST_PREV, ReadlineEditor.KEY_HIST_PREV);
    Probe.type(x, "!");
    Probe.press(x, ReadlineEditor.KEY_ENTER);
    Probe.history("an edited entry accepted", x, "one", "two", "one!");
    nav("an edited entry accepted", x, 3);
    draft("an edited entry accepted", x, "");
    Probe.line("an edited entry accepted", x, "", 0);
    Probe.press(x, ReadlineEditor.KEY_HIST_PREV, ReadlineEditor.KEY_KILL_START, ReadlineEditor.KEY_ENTER);
    Probe.history("an emptied entry accepted", x, "one", "two", "one!");
    nav("an emptied entry accepted", x, 3);
  }

  private static void ringAndLast() {
    int[] keys = {ReadlineEditor.KEY_ENTER, ReadlineEditor.KEY_HIST_PREV};
    for (int code : keys) {
      ReadlineEditor x = withLines("line");
      Probe.type(x, "ab cd");
      Probe.press(x, ReadlineEditor.KEY_KILL_WORD_BACK, code);
      Probe.last("after " + code, x, ReadlineEditor.LAST_OTHER);
      Probe.kills("after " + code, x, "cd");
      Probe.type(x, "z");
      Probe.press(x, ReadlineEditor.KEY_KILL_START);
      Expect.same("the chain is broken by " + code, x.info(ReadlineEditor.INFO_KILL_COUNT), 2);
    }
  }
}
