// Promise 2, its first list: what any key answers, and what a refused one leaves as it was.
public final class KeyEdgesTest {
  public static void main(String[] args) {
    oneOfTwoAnswers();
    refusedKeepsOther();
    refusedKeepsInsert();
    refusedKeepsKill();
    refusedKeepsYank();
    refusedKeepsYankIndex();
    refusedKeepsSearch();
    neighboursOfKeys();
    printableEnds();
    negativeAndLarge();
    screenAfterEveryCall();
    Expect.finish();
  }

  private static ReadlineEditor searching() {
    ReadlineEditor x = Make.withLast(ReadlineEditor.LAST_INSERT);
    Probe.press(x, Keys.SEARCH, 't');
    return x;
  }

  private static void oneOfTwoAnswers() {
    Expect.about("handles one keystroke and answers OK or REFUSED. Every key that is not REFUSED answers OK.");
    for (int code = -10; code <= 260; code++) {
      for (int last : Make.LASTS) {
        ReadlineEditor x = Make.withLast(last);
        answersByItsEffect(x, code);
      }
      answersByItsEffect(searching(), code);
    }
  }

  // In these states, every key that is taken changes something.
  private static void answersByItsEffect(ReadlineEditor x, int code) {
    String before = Probe.everything(x);
    int answer = x.key(code);
    boolean changed = !before.equals(Probe.everything(x));
    Expect.same("key(" + code + ")", answer, changed ? 1 : 0);
  }

  // What is refused with the cursor at the start or the end of the line, and at a history's newest end.
  private static final int[] AT_START = {Keys.LEFT, Keys.HOME, Keys.WORD_LEFT, Keys.BACKSPACE, Keys.KILL_START, Keys.KILL_BACK};
  private static final int[] AT_END = {Keys.RIGHT, Keys.END, Keys.WORD_RIGHT, Keys.DELETE, Keys.KILL_END, Keys.KILL_FWD};
  private static final int[] ALWAYS = {Keys.CANCEL, Keys.NEXT, 0, 3, 127, 199, 204, -1, Integer.MIN_VALUE, Integer.MAX_VALUE};

  private static void refusedKeepsOther() {
    Expect.about("A REFUSED key changes nothing at all, not even last. (LAST_OTHER)");
    ReadlineEditor x = Make.line("ab cd", 5);
    Probe.refused(x, AT_END);
    Probe.refused(x, ALWAYS);
    Probe.refused(x, Keys.YANK, Keys.POP, Keys.PREV, Keys.SEARCH);
    Probe.press(x, 'e');
    Expect.same("the next char begins a group", x.info(ReadlineEditor.INFO_UNDO_DEPTH), 2);
    Probe.refused(Make.line("ab cd", 0), AT_START);
    Probe.refused(Make.line(Make.FULL, 7), 'x', Keys.YANK, Keys.POP);
    ReadlineEditor oldest = Make.lines(2, "a");
    Probe.press(oldest, Keys.PREV);
    Probe.refused(oldest, Keys.PREV, Keys.UNDO);
  }

  private static void refusedKeepsInsert() {
    Expect.about("A REFUSED key changes nothing at all, not even last. (LAST_INSERT)");
    ReadlineEditor x = Make.line("", 0);
    Probe.type(x, "ab");
    Probe.refused(x, AT_END);
    Probe.refused(x, ALWAYS);
    Probe.refused(x, Keys.YANK, Keys.POP, Keys.PREV, Keys.SEARCH);
    Probe.last("after refusals", x, ReadlineEditor.LAST_INSERT);
    Probe.press(x, 'c');
    Expect.same("the next char is in the same group", x.info(ReadlineEditor.INFO_UNDO_DEPTH), 1);
    Probe.type(x, Make.text(29));
    Probe.refused(x, 'x');
    Probe.press(x, Keys.UNDO);
    Probe.line("one group in all", x, "", 0);
    ReadlineEditor ring = Make.ring(2, "ab");
    Probe.type(ring, Make.text(31));
    Probe.refused(ring, Keys.YANK, Keys.POP);
    ReadlineEditor oldest = Make.lines(2, "a");
    Probe.press(oldest, Keys.PREV, 'x');
    Probe.refused(oldest, Keys.PREV);
  }

  private static void refusedKeepsKill() {
    Expect.about("A REFUSED key changes nothing at all, not even last. (LAST_KILL)");
    ReadlineEditor x = Make.line("ab cd", 5);
    Probe.press(x, Keys.KILL_BACK);
    Probe.refused(x, AT_END);
    Probe.refused(x, ALWAYS);
    Probe.refused(x, Keys.POP, Keys.PREV, Keys.SEARCH);
    Probe.last("after refusals", x, ReadlineEditor.LAST_KILL);
    Probe.press(x, Keys.KILL_BACK);
    Probe.kills("the next kill is in the same chain", x, "ab cd");
    Probe.refused(x, AT_START);
    Probe.refused(x, AT_END);
    ReadlineEditor start = Make.line("ab cd", 2);
    Probe.press(start, Keys.KILL_START);
    Probe.refused(start, AT_START);
    Probe.press(start, Keys.KILL_END);
    Probe.kills("and so at the start", start, "ab cd");
    ReadlineEditor oldest = Make.lines(2, "a");
    Probe.press(oldest, Keys.PREV, Keys.KILL_START);
    Probe.refused(oldest, Keys.PREV);
  }

  private static void refusedKeepsYank() {
    Expect.about("A REFUSED key changes nothing at all, not even last. (LAST_YANK)");
    ReadlineEditor x = Make.ring(2, "old", "newer");
    Probe.type(x, Make.text(25));
    Probe.press(x, Keys.YANK);
    Probe.refused(x, AT_END);
    Probe.refused(x, ALWAYS);
    Probe.refused(x, Keys.YANK, Keys.PREV, Keys.SEARCH);
    Probe.last("after refusals", x, ReadlineEditor.LAST_YANK);
    Probe.press(x, Keys.POP);
    Probe.line("the next pop replaces the yank", x, Make.text(25) + "old", 28);
    ReadlineEditor full = Make.ring(2, "old", "newer");
    Probe.type(full, Make.text(27));
    Probe.press(full, Keys.YANK);
    Probe.refused(full, 'x', ' ', Keys.YANK);
    Probe.press(full, Keys.POP);
    Probe.line("and so at a full line", full, Make.text(27) + "old", 30);
    ReadlineEditor oldest = Make.lines(2, "a");
    Make.kill(oldest, "ab");
    Probe.press(oldest, Keys.PREV, Keys.YANK);
    Probe.refused(oldest, Keys.PREV);
  }

  private static void refusedKeepsYankIndex() {
    Expect.about("A REFUSED key changes nothing at all, not even last. (y, by a refused pop)");
    ReadlineEditor x = Make.ring(3, Make.text(9), "cc", "b");
    Probe.type(x, Make.text(24));
    Probe.press(x, Keys.YANK, Keys.POP);
    Probe.refused(x, Keys.POP, Keys.POP, Keys.CANCEL, Keys.RIGHT);
    Expect.same("y", x.info(ReadlineEditor.INFO_YANK_INDEX), 1);
  }

  private static void refusedKeepsSearch() {
    Expect.about("A REFUSED key changes nothing at all, not even last. (search mode)");
    ReadlineEditor x = searching();
    Probe.refused(x, 'q', '~', 0, 127, Keys.UNDO, Keys.YANK, Keys.POP, Keys.LEFT, Keys.KILL_END);
    Probe.search("q and m after refusals", x, 1, 1, "?t: two", 4);
    Probe.press(x, 'w');
    Probe.search("a refused char is not in q", x, 1, 2, "?tw: two", 5);
    Probe.press(x, Keys.SEARCH);
    Probe.refused(x, Keys.SEARCH, 'q', 't');
    Probe.search("m = 0 after refusals", x, 0, 2, "?tw: one two", 9);
  }

  private static void neighboursOfKeys() {
    Expect.about("Any code that is neither printable (32..126) nor one of the KEY_ constants is REFUSED in both modes.");
    ReadlineEditor edit = Make.withLast(ReadlineEditor.LAST_YANK);
    ReadlineEditor search = searching();
    for (int key : Keys.named()) {
      for (int code = key - 1; code <= key + 1; code++) {
        if (!Keys.isKey(code)) {
          Probe.refused(edit, code);
          Probe.refused(search, code);
        }
      }
    }
    for (int code = 0; code <= 32; code++) {
      if (!Keys.isKey(code)) {
        Probe.refused(edit, code);
        Probe.refused(search, code);
      }
    }
    for (int code = 127; code < 200; code++) {
      Probe.refused(edit, code);
      Probe.refused(search, code);
    }
  }

  private static void printableEnds() {
    Expect.about("Any code that is neither printable (32..126) nor one of the KEY_ constants is REFUSED in both modes. (32 and 126)");
    ReadlineEditor x = Make.lines(2, " !}~");
    Probe.press(x, Keys.SEARCH);
    Probe.refused(x, 127, 30);
    Probe.press(x, 32, 33, 125, 126);
    Probe.refused(x, 127, 31, 30);
    Probe.search("a query of the end codes", x, 0, 4, "? !}~:  !}~", 7);
    Probe.press(x, Keys.CANCEL);
    Probe.refused(x, 127, 30);
    Probe.press(x, 32, 33, 125, 126);
    Probe.refused(x, 127, 30);
    Probe.line("a line of the end codes", x, " !}~", 4);
  }

  private static void negativeAndLarge() {
    Expect.about("This includes all negative codes and all large codes.");
    for (int last : Make.LASTS) {
      Probe.refused(Make.withLast(last), Probe.FAR_CODES);
    }
    Probe.refused(Make.line("", 0), Probe.FAR_CODES);
    Probe.refused(searching(), Probe.FAR_CODES);
    Probe.refused(Make.searching(1, "a"), Probe.FAR_CODES);
    ReadlineEditor edit = Make.withLast(ReadlineEditor.LAST_KILL);
    ReadlineEditor search = searching();
    for (int code = -300; code < 0; code++) {
      Probe.refused(edit, code);
      Probe.refused(search, code);
    }
    for (int code = 204; code <= 600; code++) {
      Probe.refused(edit, code);
      Probe.refused(search, code);
    }
  }

  private static void screenAfterEveryCall() {
    Expect.about("After every call the screen shows the new D, as stated under Screen.");
    int[] codes = {
      'a', 'b', ' ', 'c', 'd', 127, Keys.LEFT, Keys.HOME, Keys.HOME, Keys.END, Keys.WORD_LEFT, Keys.KILL_END, Keys.YANK,
      Keys.POP, Keys.BACKSPACE, Keys.HOME, Keys.DELETE, Keys.WORD_RIGHT, Keys.RIGHT, Keys.KILL_BACK, Keys.UNDO, Keys.ENTER,
      'x', 'y', Keys.PREV, Keys.PREV, Keys.NEXT, Keys.KILL_START, Keys.YANK, Keys.SEARCH, 'b', 'q', ' ', Keys.BACKSPACE,
      Keys.SEARCH, Keys.ENTER, Keys.KILL_FWD, Keys.SEARCH, Keys.SEARCH, Keys.CANCEL, Keys.CANCEL, Keys.ENTER, Keys.UNDO
    };
    for (int width = 4; width <= 16; width++) {
      ReadlineEditor x = new ReadlineEditor(width, 2, 2);
      Model model = new Model(width, 2, 2);
      for (int code : codes) {
        x.key(code);
        model.key(code);
        Probe.picture("after key(" + code + ")", x);
        Expect.same("everything after key(" + code + ")", Probe.everything(x), model.everything());
      }
    }
  }
}
