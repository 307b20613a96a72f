// Promise 2, edit mode: kills, the kill ring, yank and yank-pop.
public final class KillYankTest {
  private static final String FULL = "abcdefghijklmnopqrstuvwxyz012345";

  public static void main(String[] args) {
    fourKills();
    emptyKills();
    chains();
    chainOfAWholeLine();
    brokenChains();
    ringDropsOldest();
    yankInserts();
    yankLimit();
    yankPops();
    popWithOneEntry();
    popLimit();
    popNeedsYank();
    undoOfYankGroup();
    Expect.finish();
  }

  private static ReadlineEditor with(String text, int steps) {
    ReadlineEditor x = new ReadlineEditor(8, 3, 3);
    Probe.type(x, text);
    for (int i = 0; i < steps; i++) {
      Probe.press(x, ReadlineEditor.KEY_LEFT);
    }
    return x;
  }

  private static void killOnce(int code, String left, int cursor, String killed) {
    ReadlineEditor x = with("ab cd, ef gh", 5);
    Probe.press(x, code);
    String when = "kill by " + code;
    Probe.line(when, x, left, cursor);
    Probe.kills(when, x, killed);
    Probe.last(when, x, ReadlineEditor.LAST_KILL);
    Expect.same(when + ": undo depth", x.info(ReadlineEditor.INFO_UNDO_DEPTH), 2);
    Probe.press(x, ReadlineEditor.KEY_UNDO);
    Probe.line(when + ", undone", x, "ab cd, ef gh", 7);
    Probe.kills(when + ", undone", x, killed);
  }

  private static void fourKills() {
    killOnce(ReadlineEditor.KEY_KILL_END, "ab cd, ", 7, "ef gh");
    killOnce(ReadlineEditor.KEY_KILL_WORD_FWD, "ab cd,  gh", 7, "ef");
    killOnce(ReadlineEditor.KEY_KILL_START, "ef gh", 0, "ab cd, ");
    killOnce(ReadlineEditor.KEY_KILL_WORD_BACK, "ab ef gh", 3, "cd, ");
  }

  private static void emptyKills() {
    ReadlineEditor x = with("ab", 0);
    Probe.refused(x, ReadlineEditor.KEY_KILL_END, ReadlineEditor.KEY_KILL_WORD_FWD);
    Probe.press(x, ReadlineEditor.KEY_HOME);
    Probe.refused(x, ReadlineEditor.KEY_KILL_START, ReadlineEditor.KEY_KILL_WORD_BACK);
  }

  private static void chains() {
    ReadlineEditor x = with("one two three four", 10);
    Probe.press(x, ReadlineEditor.KEY_KILL_WORD_FWD);
    Probe.kills("first", x, "three");
    Probe.press(x, ReadlineEditor.KEY_KILL_WORD_BACK);
    Probe.kills("prepended", x, "two three");
    Probe.refused(x, 127, ReadlineEditor.KEY_CANCEL);
    Probe.press(x, ReadlineEditor.KEY_KILL_END);
    Probe.kills("appended over a refused key", x, "two three four");
    Probe.refused(x, ReadlineEditor.KEY_KILL_END);
    Probe.press(x, ReadlineEditor.KEY_KILL_START);
    Probe.kills("all in one", x, "one two three four");
    Probe.line("all killed", x, "", 0);
    Expect.same("each kill pushes", x.info(ReadlineEditor.INFO_UNDO_DEPTH), 5);
  }

  private static void chainOfAWholeLine() {
    ReadlineEditor x = with("short", 0);
    Probe.press(x, ReadlineEditor.KEY_KILL_START);
    Probe.type(x, FULL);
    for (int i = 0; i < 16; i++) {
      Probe.press(x, ReadlineEditor.KEY_LEFT);
    }
    Probe.press(x, ReadlineEditor.KEY_KILL_START, ReadlineEditor.KEY_KILL_END);
    Probe.kills("32 chars", x, FULL, "short");
    Probe.press(x, ReadlineEditor.KEY_YANK);
    Probe.line("32 chars yanked", x, FULL, 32);
  }

  private static void brokenChains() {
    int[] breakers = {ReadlineEditor.KEY_LEFT, ReadlineEditor.KEY_BACKSPACE, ReadlineEditor.KEY_WORD_LEFT, 'x'};
    for (int code : breakers) {
      ReadlineEditor x = with("aa bb cc", 0);
      Probe.press(x, ReadlineEditor.KEY_KILL_WORD_BACK, code, ReadlineEditor.KEY_KILL_START);
      Expect.same("kills apart by " + code, x.info(ReadlineEditor.INFO_KILL_COUNT), 2);
      Expect.same("older kill, apart by " + code, Probe.kill(x, 1), "cc");
    }
    ReadlineEditor x = with("aa bb", 0);
    Probe.press(x, ReadlineEditor.KEY_KILL_WORD_BACK, ReadlineEditor.KEY_UNDO, ReadlineEditor.KEY_KILL_WORD_BACK);
    Probe.kills("kills apart by an undo", x, "bb", "bb");
    Probe.press(x, ReadlineEditor.KEY_YANK, ReadlineEditor.KEY_KILL_START);
    Probe.kills("kills apart by a yank", x, "aa bb", "bb", "bb");
  }

  private static void ringDropsOldest() {
    ReadlineEditor x = with("", 0);
    String[] killed = {"first", "2nd", "the third", "4", "number five"};
    for (String text : killed) {
      Probe.type(x, text);
      Probe.press(x, ReadlineEditor.KEY_KILL_START);
    }
    Probe.kills("ring of three", x, "number five", "4", "the third");
    ReadlineEditor one = new ReadlineEditor(8, 1, 1);
    Probe.type(one, "ab");
    Probe.press(one, ReadlineEditor.KEY_KILL_START);
    Probe.type(one, "c");
    Probe.press(one, ReadlineEditor.KEY_KILL_START);
    Probe.kills("ring of one", one, "c");
  }

  private static void yankInserts() {
    ReadlineEditor x = with("abXYZ", 3);
    Probe.press(x, ReadlineEditor.KEY_KILL_END, ReadlineEditor.KEY_LEFT);
    int depth = x.info(ReadlineEditor.INFO_UNDO_DEPTH);
    Probe.press(x, ReadlineEditor.KEY_YANK);
    Probe.line("yank in the middle", x, "aXYZb", 4);
    Probe.last("yank", x, ReadlineEditor.LAST_YANK);
    Expect.same("yank index", x.info(ReadlineEditor.INFO_YANK_INDEX), 0);
    Expect.same("yank pushes", x.info(ReadlineEditor.INFO_UNDO_DEPTH), depth + 1);
    Probe.press(x, ReadlineEditor.KEY_YANK);
    Probe.line("yank again", x, "aXYZXYZb", 7);
    Expect.same("yank pushes each time", x.info(ReadlineEditor.INFO_UNDO_DEPTH), depth + 2);
    Probe.kills("yanks leave the ring", x, "XYZ");
    Probe.press(x, ReadlineEditor.KEY_LEFT);
    Expect.same("no yank index after a move", x.info(ReadlineEditor.INFO_YANK_INDEX), -1);
  }

  private static void yankLimit() {
    ReadlineEditor x = with("0123456789", 0);
    Probe.press(x, ReadlineEditor.KEY_KILL_START, ReadlineEditor.KEY_YANK, ReadlineEditor.KEY_YANK);
    Probe.type(x, "ab");
    Probe.press(x, ReadlineEditor.KEY_YANK);
    Expect.same("yank up to the limit", x.info(ReadlineEditor.INFO_LENGTH), 32);
    Probe.refused(x, ReadlineEditor.KEY_YANK);
    Probe.press(x, ReadlineEditor.KEY_UNDO);
    Probe.type(x, "c");
    Probe.refused(x, ReadlineEditor.KEY_YANK);
  }

  private static ReadlineEditor ringOfThree() {
    ReadlineEditor x = with("", 0);
    String[] killed = {"old", "middle", "n"};
    for (String text : killed) {
      Probe.type(x, text);
      Probe.press(x, ReadlineEditor.KEY_KILL_START);
    }
    return x;
  }

  private static void yankPops() {
    ReadlineEditor x = ringOfThree();
    Probe.type(x, "<>");
    Probe.press(x, ReadlineEditor.KEY_LEFT, ReadlineEditor.KEY_YANK);
    int depth = x.info(ReadlineEditor.INFO_UNDO_DEPTH);
    String[] shown = {"middle", "old", "n", "middle"};
    for (int i = 0; i < shown.length; i++) {
      Probe.press(x, ReadlineEditor.KEY_YANK_POP);
      Probe.line("pop " + i, x, "<" + shown[i] + ">", 1 + shown[i].length());
      Probe.last("pop " + i, x, ReadlineEditor.LAST_YANK);
      Expect.same("yank index after pop " + i, x.info(ReadlineEditor.INFO_YANK_INDEX), (i + 1) % 3);
      Expect.same("depth after pop " + i, x.info(ReadlineEditor.INFO_UNDO_DEPTH), depth);
    }
    Probe.kills("pops leave the ring", x, "n", "middle", "old");
    Probe.press(x, ReadlineEditor.KEY_YANK);
    Probe.line("a yank after pops takes the newest", x, "<middlen>", 8);
    Expect.same("yank index is back", x.info(ReadlineEditor.INFO_YANK_INDEX), 0);
  }

  private static void popWithOneEntry() {
    ReadlineEditor x = with("abc", 0);
    Probe.press(x, ReadlineEditor.KEY_KILL_START, ReadlineEditor.KEY_YANK, ReadlineEditor.KEY_YANK_POP);
    Probe.line("pop onto itself", x, "abc", 3);
    Expect.same("yank index stays", x.info(ReadlineEditor.INFO_YANK_INDEX), 0);
  }

  private static void popLimit() {
    ReadlineEditor x = with("0123456789", 0);
    Probe.press(x, ReadlineEditor.KEY_KILL_START);
    Probe.type(x, "ab");
    Probe.press(x, ReadlineEditor.KEY_KILL_START);
    Probe.type(x, FULL.substring(0, 22));
    Probe.press(x, ReadlineEditor.KEY_YANK, ReadlineEditor.KEY_YANK_POP);
    Probe.line("pop up to the limit", x, FULL.substring(0, 22) + "0123456789", 32);
    Probe.press(x, ReadlineEditor.KEY_UNDO);
    Probe.type(x, "+");
    Probe.press(x, ReadlineEditor.KEY_YANK);
    Probe.refused(x, ReadlineEditor.KEY_YANK_POP);
    Expect.same("yank index after a refused pop", x.info(ReadlineEditor.INFO_YANK_INDEX), 0);
  }

  private static void popNeedsYank() {
    ReadlineEditor x = ringOfThree();
    Probe.refused(x, ReadlineEditor.KEY_YANK_POP);
    Probe.press(x, ReadlineEditor.KEY_YANK);
    Probe.refused(x, ReadlineEditor.KEY_RIGHT, ReadlineEditor.KEY_DELETE, 127);
    Probe.press(x, ReadlineEditor.KEY_YANK_POP, ReadlineEditor.KEY_LEFT);
    Probe.refused(x, ReadlineEditor.KEY_YANK_POP);
  }

  private static void undoOfYankGroup() {
    ReadlineEditor x = ringOfThree();
    Probe.type(x, "ab");
    Probe.press(x, ReadlineEditor.KEY_LEFT, ReadlineEditor.KEY_YANK, ReadlineEditor.KEY_YANK_POP, ReadlineEditor.KEY_YANK_POP);
    Probe.line("yanked and popped", x, "aoldb", 4);
    Probe.press(x, ReadlineEditor.KEY_UNDO);
    Probe.line("the group is undone", x, "ab", 1);
    Probe.last("after the undo", x, ReadlineEditor.LAST_OTHER);
    Probe.refused(x, ReadlineEditor.KEY_YANK_POP);
  }
}
