// "Terms and state": PUSH and RECORD, where the stack or the ring is empty, all but full, and full.
public final class PushRecordEdgesTest {
  public static void main(String[] args) {
    fullStackDropsItsOldest();
    pushTakesTheStateBeforeTheKey();
    olderLevelsMoveByOne();
    chainForward();
    chainBackward();
    chainAtAFullRing();
    noChainByOtherLast();
    fullRingDropsItsOldest();
    olderKillsMoveByOne();
    countGrowsBelowR();
    chainOfAWholeLine();
    Expect.finish();
  }

  private static String[] levels(ReadlineEditor x) {
    String[] levels = new String[9];
    for (int level = 0; level < 9; level++) {
      levels[level] = "[" + Probe.undo(x, level) + "]" + x.undoCursor(level);
    }
    return levels;
  }

  private static void fullStackDropsItsOldest() {
    Expect.about("If the undo stack already holds UNDO_CAP snapshots, its oldest is dropped.");
    ReadlineEditor x = Make.line(Make.text(20), 20);
    Make.times(x, 6, Keys.BACKSPACE);
    Expect.same("seven: oldest", levels(x)[6], "[]0");
    Expect.same("seven: no eighth", levels(x)[7], "[]-1");
    Probe.press(x, Keys.BACKSPACE);
    Expect.same("eight: oldest is kept", levels(x)[7], "[]0");
    Expect.same("eight: no ninth", levels(x)[8], "[]-1");
    Probe.press(x, Keys.BACKSPACE);
    Expect.same("one past: oldest", levels(x)[7], "[" + Make.text(20) + "]20");
    Expect.same("one past: no ninth", levels(x)[8], "[]-1");
    Probe.press(x, Keys.BACKSPACE);
    Expect.same("two past: oldest", levels(x)[7], "[" + Make.text(19) + "]19");
    Expect.same("two past: depth", x.info(ReadlineEditor.INFO_UNDO_DEPTH), 8);
    ReadlineEditor longest = Make.line(Make.FULL, 32);
    for (int i = 0; i < 6; i++) {
      Probe.press(longest, Keys.BACKSPACE, 'A' + i);
    }
    for (int level = 1; level < 8; level += 2) {
      char end = (char) ('E' - level / 2);
      Expect.same("a moved snapshot of 32 chars", levels(longest)[level], "[" + Make.text(31) + end + "]32");
    }
  }

  private static void pushTakesTheStateBeforeTheKey() {
    Expect.about("Then (B, k), as they were before the current key, becomes level 0");
    int[] pushing = {'x', Keys.BACKSPACE, Keys.DELETE, Keys.KILL_END, Keys.KILL_FWD, Keys.KILL_START, Keys.KILL_BACK, Keys.YANK};
    int[] cursors = {1, 3, 5};
    for (int code : pushing) {
      for (int k : cursors) {
        ReadlineEditor x = Make.ring(2, "kill");
        Probe.type(x, "ab cde");
        Make.place(x, k);
        Probe.press(x, code);
        Expect.same("level 0 after " + code, levels(x)[0], "[ab cde]" + k);
      }
    }
  }

  private static void olderLevelsMoveByOne() {
    Expect.about("level j of the older snapshots becomes j+1");
    ReadlineEditor x = Make.line(Make.text(20), 20);
    for (int i = 0; i < 12; i++) {
      String[] before = levels(x);
      Probe.press(x, i % 2 == 0 ? Keys.BACKSPACE : 'x');
      String[] after = levels(x);
      for (int j = 0; j < 7; j++) {
        Expect.same("push " + i + ", level " + (j + 1), after[j + 1], before[j]);
      }
      Expect.same("push " + i + ", no ninth level", after[8], "[]-1");
    }
  }

  private static void chainForward() {
    Expect.about("If last = LAST_KILL, the entry e[0] becomes e[0] followed by t (forward)");
    int[] forward = {Keys.KILL_FWD, Keys.KILL_END};
    for (int code : forward) {
      ReadlineEditor x = Make.line("ab cd", 2);
      Probe.press(x, Keys.KILL_BACK);
      Probe.kills("one kill", x, "ab");
      Probe.press(x, code);
      Probe.kills("appended by " + code, x, "ab cd");
    }
    ReadlineEditor two = Make.line("a b c d", 0);
    Make.times(two, 4, Keys.KILL_FWD);
    Probe.kills("four in a row", two, "a b c d");
  }

  private static void chainBackward() {
    Expect.about("or t followed by e[0] (backward)");
    int[] backward = {Keys.KILL_BACK, Keys.KILL_START};
    for (int code : backward) {
      ReadlineEditor x = Make.line("ab cd", 2);
      Probe.press(x, Keys.KILL_FWD);
      Probe.kills("one kill", x, " cd");
      Probe.press(x, code);
      Probe.kills("prepended by " + code, x, "ab cd");
    }
    ReadlineEditor two = Make.line("a b c d", 7);
    Make.times(two, 4, Keys.KILL_BACK);
    Probe.kills("four in a row", two, "a b c d");
  }

  private static void chainAtAFullRing() {
    Expect.about("If last = LAST_KILL, the entry e[0] becomes e[0] followed by t (forward)");
    ReadlineEditor x = Make.ring(2, "old", "new");
    Probe.type(x, "ab cd ef");
    Make.place(x, 5);
    Probe.press(x, Keys.KILL_FWD);
    Probe.kills("a full ring", x, " ef", "new");
    Probe.press(x, Keys.KILL_BACK);
    Probe.kills("a chain drops nothing", x, "cd ef", "new");
    ReadlineEditor one = Make.ring(1, "old");
    Probe.type(one, "ab cd");
    Probe.press(one, Keys.KILL_BACK, Keys.KILL_BACK);
    Probe.kills("a chain in a ring of one", one, "ab cd");
  }

  private static void noChainByOtherLast() {
    Expect.about("Otherwise, if kc = R the entry e[R-1] is dropped. (no chain unless last = LAST_KILL)");
    int[] apart = {Keys.LEFT, 'x', Keys.YANK, Keys.UNDO, Keys.BACKSPACE, Keys.DELETE, Keys.HOME};
    for (int code : apart) {
      ReadlineEditor x = Make.line("ab cd ef", 5);
      Probe.press(x, Keys.KILL_BACK, code, Keys.KILL_END);
      Expect.same("kills apart by " + code, x.info(ReadlineEditor.INFO_KILL_COUNT), 2);
      Expect.same("the older one", Probe.kill(x, 1), "cd");
    }
    ReadlineEditor first = Make.line("ab", 2);
    Probe.press(first, Keys.KILL_START);
    Probe.kills("the first kill of all", first, "ab");
  }

  private static void fullRingDropsItsOldest() {
    Expect.about("Otherwise, if kc = R the entry e[R-1] is dropped.");
    String[] texts = {"1st", "second", "3", "the fourth", "5th"};
    for (int cap = 1; cap <= 4; cap++) {
      ReadlineEditor x = Make.ring(cap);
      for (int count = 1; count <= cap; count++) {
        Make.kill(x, texts[count - 1]);
        Expect.same("up to R = " + cap + " the oldest stays", Probe.kill(x, count - 1), "1st");
      }
      Make.kill(x, texts[cap]);
      Expect.same("one past R = " + cap + ": newest", Probe.kill(x, 0), texts[cap]);
      Expect.same("one past R = " + cap + ": oldest", Probe.kill(x, cap - 1), texts[1]);
      Expect.same("one past R = " + cap + ": none after it", Probe.kill(x, cap), "");
    }
  }

  private static void olderKillsMoveByOne() {
    Expect.about("Index i of every entry left becomes i+1, e[0] becomes t");
    ReadlineEditor x = Make.ring(3);
    Make.kill(x, "a");
    Make.kill(x, Make.FULL);
    Probe.kills("two of three", x, Make.FULL, "a");
    Make.kill(x, "ccc");
    Probe.kills("three of three", x, "ccc", Make.FULL, "a");
    Make.kill(x, "dd");
    Probe.kills("a fourth", x, "dd", "ccc", Make.FULL);
    Make.kill(x, "e");
    Probe.kills("a fifth", x, "e", "dd", "ccc");
    ReadlineEditor longest = Make.ring(4);
    for (int i = 0; i < 5; i++) {
      Make.kill(longest, Make.text(31) + i);
    }
    for (int i = 0; i < 4; i++) {
      Expect.same("a moved kill of 32 chars", Probe.kill(longest, i), Make.text(31) + (4 - i));
    }
  }

  private static void countGrowsBelowR() {
    Expect.about("kc grows by one if it was below R");
    for (int cap = 1; cap <= 4; cap++) {
      ReadlineEditor x = Make.ring(cap);
      for (int count = 1; count <= cap + 2; count++) {
        Make.kill(x, "k" + count);
        Expect.same("kc at R = " + cap, x.info(ReadlineEditor.INFO_KILL_COUNT), Math.min(cap, count));
      }
    }
  }

  private static void chainOfAWholeLine() {
    Expect.about("Chained kills take disjoint chars of one buffer, so no entry ever exceeds MAX_LINE.");
    String line = "a-".repeat(16);
    for (int k = 0; k <= 32; k++) {
      ReadlineEditor x = Make.ring(2, "other");
      Probe.type(x, line);
      Make.place(x, k);
      int toggle = 0;
      while (x.info(ReadlineEditor.INFO_LENGTH) > 0) {
        int back = x.info(ReadlineEditor.INFO_CURSOR);
        int ahead = x.info(ReadlineEditor.INFO_LENGTH) - back;
        toggle = 1 - toggle;
        Probe.press(x, back > 0 && (toggle == 0 || ahead == 0) ? Keys.KILL_BACK : Keys.KILL_FWD);
      }
      Probe.kills("32 chars in pieces from " + k, x, line, "other");
      Expect.same("the char past them", x.killChar(0, 32), -1);
    }
    ReadlineEditor shorter = Make.ring(2, "other");
    Probe.type(shorter, Make.text(31));
    Make.place(shorter, 1);
    Probe.press(shorter, Keys.KILL_START, Keys.KILL_END);
    Probe.kills("31 chars", shorter, Make.text(31), "other");
  }
}
