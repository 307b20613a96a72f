// Promise 2, "Edit mode": kills, yank and yank-pop at the ends of the line, the ring and the limit.
public final class KillEdgesTest {
  public static void main(String[] args) {
    killEnd();
    killWordForward();
    killStart();
    killWordBack();
    emptyText();
    emptyTextAfterAKill();
    killRemoves();
    killOfAFullLine();
    yankOfNothing();
    yankUpToTheLimit();
    yankInserts();
    yankSetsIndex();
    popWithoutYank();
    popWraps();
    popUpToTheLimit();
    popShortensAFullLine();
    popReplaces();
    popPushesNothing();
    popKeepsLast();
    popKeepsTheRing();
    whoPushes();
    whoKills();
    Expect.finish();
  }

  private static int depth(ReadlineEditor x) {
    return x.info(ReadlineEditor.INFO_UNDO_DEPTH);
  }

  private static int yankIndex(ReadlineEditor x) {
    return x.info(ReadlineEditor.INFO_YANK_INDEX);
  }

  private static void killed(String text, int k, int code, String left, int cursor, String entry) {
    ReadlineEditor x = Make.line(text, k);
    if (entry.isEmpty()) {
      Probe.refused(x, code);
      Probe.kills("nothing killed", x);
    } else {
      Probe.press(x, code);
      Probe.kills("killed by " + code + " at " + k, x, entry);
      Probe.last("killed", x, ReadlineEditor.LAST_KILL);
      Expect.same("level 0", Probe.undo(x, 0), text);
      Expect.same("its cursor", x.undoCursor(0), k);
    }
    Probe.line("left by " + code + " at " + k, x, left, cursor);
  }

  private static void killEnd() {
    Expect.about("KEY_KILL_END: t = B[k..n), forward.");
    killed("", 0, Keys.KILL_END, "", 0, "");
    killed("a", 1, Keys.KILL_END, "a", 1, "");
    killed("a", 0, Keys.KILL_END, "", 0, "a");
    killed("a b", 3, Keys.KILL_END, "a b", 3, "");
    killed("a b", 2, Keys.KILL_END, "a ", 2, "b");
    killed("a b", 0, Keys.KILL_END, "", 0, "a b");
    killed(Make.FULL, 32, Keys.KILL_END, Make.FULL, 32, "");
    killed(Make.FULL, 31, Keys.KILL_END, Make.text(31), 31, "5");
    killed(Make.FULL, 1, Keys.KILL_END, "a", 1, Make.FULL.substring(1));
    killed(Make.FULL, 0, Keys.KILL_END, "", 0, Make.FULL);
  }

  private static void killWordForward() {
    Expect.about("KEY_KILL_WORD_FWD: t = B[k..wr), forward.");
    killed("", 0, Keys.KILL_FWD, "", 0, "");
    killed("a", 1, Keys.KILL_FWD, "a", 1, "");
    killed("-", 1, Keys.KILL_FWD, "-", 1, "");
    killed("a", 0, Keys.KILL_FWD, "", 0, "a");
    killed("-", 0, Keys.KILL_FWD, "", 0, "-");
    killed("ab--", 2, Keys.KILL_FWD, "ab", 2, "--");
    killed("ab-cd ef", 1, Keys.KILL_FWD, "a-cd ef", 1, "b");
    killed("ab-cd ef", 2, Keys.KILL_FWD, "ab ef", 2, "-cd");
    killed("ab-cd ef", 7, Keys.KILL_FWD, "ab-cd e", 7, "f");
    killed(Make.FULL, 0, Keys.KILL_FWD, "", 0, Make.FULL);
    killed(Make.FULL, 31, Keys.KILL_FWD, Make.text(31), 31, "5");
    killed(Make.text(31) + " ", 0, Keys.KILL_FWD, " ", 0, Make.text(31));
  }

  private static void killStart() {
    Expect.about("KEY_KILL_START: t = B[0..k), backward.");
    killed("", 0, Keys.KILL_START, "", 0, "");
    killed("a", 0, Keys.KILL_START, "a", 0, "");
    killed("a", 1, Keys.KILL_START, "", 0, "a");
    killed("a b", 0, Keys.KILL_START, "a b", 0, "");
    killed("a b", 1, Keys.KILL_START, " b", 0, "a");
    killed("a b", 3, Keys.KILL_START, "", 0, "a b");
    killed(Make.FULL, 0, Keys.KILL_START, Make.FULL, 0, "");
    killed(Make.FULL, 1, Keys.KILL_START, Make.FULL.substring(1), 0, "a");
    killed(Make.FULL, 31, Keys.KILL_START, "5", 0, Make.text(31));
    killed(Make.FULL, 32, Keys.KILL_START, "", 0, Make.FULL);
  }

  private static void killWordBack() {
    Expect.about("KEY_KILL_WORD_BACK: t = B[wl..k), backward.");
    killed("", 0, Keys.KILL_BACK, "", 0, "");
    killed("a", 0, Keys.KILL_BACK, "a", 0, "");
    killed("-", 0, Keys.KILL_BACK, "-", 0, "");
    killed("a", 1, Keys.KILL_BACK, "", 0, "a");
    killed("-", 1, Keys.KILL_BACK, "", 0, "-");
    killed("--ab", 2, Keys.KILL_BACK, "ab", 0, "--");
    killed("ab cd-ef", 7, Keys.KILL_BACK, "ab cd-f", 6, "e");
    killed("ab cd-ef", 6, Keys.KILL_BACK, "ab ef", 3, "cd-");
    killed("ab cd-ef", 1, Keys.KILL_BACK, "b cd-ef", 0, "a");
    killed(Make.FULL, 32, Keys.KILL_BACK, "", 0, Make.FULL);
    killed(Make.FULL, 1, Keys.KILL_BACK, Make.FULL.substring(1), 0, "a");
    killed(" " + Make.text(31), 32, Keys.KILL_BACK, " ", 1, Make.text(31));
  }

  private static final int[] FORWARD = {Keys.KILL_END, Keys.KILL_FWD};
  private static final int[] BACKWARD = {Keys.KILL_START, Keys.KILL_BACK};

  private static void emptyText() {
    Expect.about("The key is REFUSED if t is empty.");
    int[] sizes = {0, 1, 31, 32};
    for (int size : sizes) {
      Probe.refused(Make.line(Make.text(size), size), FORWARD);
      Probe.refused(Make.line(Make.text(size), 0), BACKWARD);
    }
    ReadlineEditor full = Make.ring(2, "old", "new");
    Probe.refused(full, FORWARD);
    Probe.refused(full, BACKWARD);
    Probe.kills("a refused kill drops nothing from a full ring", full, "new", "old");
  }

  private static void emptyTextAfterAKill() {
    Expect.about("The key is REFUSED if t is empty. (in a chain, which goes on)");
    ReadlineEditor x = Make.line("ab cd", 2);
    Probe.press(x, Keys.KILL_END);
    Probe.refused(x, FORWARD);
    Probe.press(x, Keys.KILL_START);
    Probe.refused(x, BACKWARD);
    Probe.kills("one chain", x, "ab cd");
    Expect.same("two pushes of kills", depth(x), 3);
  }

  private static void killRemoves() {
    Expect.about("Otherwise PUSH, RECORD t, remove t from B, set k to t's start index, and set last to LAST_KILL.");
    for (int last : Make.LASTS) {
      boolean other = last != ReadlineEditor.LAST_KILL;
      boolean yanked = last == ReadlineEditor.LAST_YANK;
      for (int code : FORWARD) {
        changedByKill(last, code, other, yanked, false);
      }
      for (int code : BACKWARD) {
        changedByKill(last, code, other, yanked, true);
      }
    }
  }

  private static void changedByKill(int last, int code, boolean other, boolean yanked, boolean backward) {
    StringBuilder names = new StringBuilder("B undo ring");
    names.append(backward ? " k" : "").append(other ? " last" : "").append(yanked ? " y" : "");
    Parts.changed(Make.withLast(last), code, names.toString().split(" "));
  }

  private static void killOfAFullLine() {
    Expect.about("Otherwise PUSH, RECORD t, remove t from B, set k to t's start index, and set last to LAST_KILL. (n = 32)");
    for (int k = 0; k <= 32; k++) {
      if (k < 32) {
        killed(Make.FULL, k, Keys.KILL_END, Make.text(k), k, Make.FULL.substring(k));
      }
      if (k > 0) {
        killed(Make.FULL, k, Keys.KILL_START, Make.FULL.substring(k), 0, Make.text(k));
      }
    }
  }

  private static void yankOfNothing() {
    Expect.about("KEY_YANK. REFUSED if kc = 0");
    Probe.refused(Make.line("", 0), Keys.YANK);
    ReadlineEditor x = Make.line("ab", 1);
    Probe.refused(x, Keys.YANK);
    Probe.press(x, Keys.BACKSPACE, Keys.DELETE);
    Probe.refused(x, Keys.YANK);
    Make.kill(x, "c");
    Probe.press(x, Keys.YANK);
    Probe.line("kc = 1", x, "c", 1);
  }

  private static void yankUpToTheLimit() {
    Expect.about("KEY_YANK. REFUSED if kc = 0 or n+|e[0]| > MAX_LINE.");
    int[] sizes = {1, 2, 16, 31};
    for (int size : sizes) {
      for (int n = 31 - size; n <= 33 - size; n++) {
        ReadlineEditor x = Make.ring(2, Make.text(size));
        Probe.type(x, "+".repeat(n));
        if (n + size > 32) {
          Probe.refused(x, Keys.YANK);
        } else {
          Probe.press(x, Keys.YANK);
          Probe.line(n + " and " + size, x, "+".repeat(n) + Make.text(size), n + size);
        }
      }
    }
    for (int n = 27; n <= 29; n++) {
      ReadlineEditor x = Make.ring(2, "Wxyz");
      Probe.type(x, "+".repeat(n));
      Make.place(x, 1);
      if (n + 4 > 32) {
        Probe.refused(x, Keys.YANK);
      } else {
        Probe.press(x, Keys.YANK);
        Probe.line(n + " and 4, inside the line", x, "+Wxyz" + "+".repeat(n - 1), 5);
      }
    }
    ReadlineEditor whole = Make.ring(2, Make.FULL);
    Probe.press(whole, Keys.YANK);
    Probe.line("0 and 32", whole, Make.FULL, 32);
    Probe.refused(whole, Keys.YANK);
    Probe.press(whole, Keys.KILL_START, '+');
    Probe.refused(whole, Keys.YANK);
  }

  private static void yankInserts() {
    Expect.about("Otherwise PUSH, insert e[0] at k, increase k by |e[0]|, set y to 0, and set last to LAST_YANK.");
    String[] kills = {"Z", "XYZ", Make.text(22)};
    for (String kill : kills) {
      for (int k = 0; k <= 10; k++) {
        ReadlineEditor x = Make.ring(2, "older", kill);
        Probe.type(x, "0123456789");
        Make.place(x, k);
        int before = depth(x);
        Probe.press(x, Keys.YANK);
        Probe.line("yanked at " + k, x, "0123456789".substring(0, k) + kill + "0123456789".substring(k), k + kill.length());
        Expect.same("depth", depth(x), before + 1);
        Expect.same("level 0", Probe.undo(x, 0), "0123456789");
        Expect.same("its cursor", x.undoCursor(0), k);
      }
    }
    Parts.changed(Make.withLast(ReadlineEditor.LAST_OTHER), Keys.YANK, "B", "k", "undo", "last", "y");
    Parts.changed(Make.withLast(ReadlineEditor.LAST_YANK), Keys.YANK, "B", "k", "undo");
  }

  private static void yankSetsIndex() {
    Expect.about("set y to 0, and set last to LAST_YANK (after pops)");
    ReadlineEditor x = Make.ring(3, "c", "b", "a");
    Probe.press(x, Keys.YANK, Keys.POP, Keys.POP);
    Expect.same("y before", yankIndex(x), 2);
    Probe.press(x, Keys.YANK);
    Expect.same("y after", yankIndex(x), 0);
    Probe.line("the newest is yanked", x, "ca", 2);
    Probe.press(x, Keys.POP);
    Probe.line("and popped from there", x, "cb", 2);
  }

  private static void popWithoutYank() {
    Expect.about("KEY_YANK_POP. REFUSED if last is not LAST_YANK.");
    Probe.refused(Make.line("", 0), Keys.POP);
    for (int last : Make.LASTS) {
      ReadlineEditor x = Make.withLast(last);
      if (last == ReadlineEditor.LAST_YANK) {
        Probe.press(x, Keys.POP);
      } else {
        Probe.refused(x, Keys.POP);
      }
    }
    int[] between = {Keys.LEFT, Keys.HOME, Keys.BACKSPACE, 'x', Keys.UNDO, Keys.KILL_START, Keys.ENTER};
    for (int code : between) {
      ReadlineEditor x = Make.ring(2, "bb", "aa");
      Probe.press(x, Keys.YANK, code);
      Probe.refused(x, Keys.POP);
    }
    ReadlineEditor searched = Make.lines(2, "one");
    Make.kill(searched, "aa");
    Probe.press(searched, Keys.YANK, Keys.SEARCH, Keys.CANCEL);
    Probe.refused(searched, Keys.POP);
  }

  private static void popWraps() {
    Expect.about("Let z = (y+1) % kc.");
    String[] names = {"a", "b", "c", "d"};
    for (int count = 1; count <= 4; count++) {
      ReadlineEditor x = Make.ring(4);
      for (int i = count - 1; i >= 0; i--) {
        Make.kill(x, names[i]);
      }
      Probe.press(x, Keys.YANK);
      for (int step = 1; step <= 2 * count + 1; step++) {
        Probe.press(x, Keys.POP);
        Expect.same("y of " + count + " after " + step, yankIndex(x), step % count);
        Probe.line("shown", x, names[step % count], 1);
      }
    }
    ReadlineEditor full = Make.ring(2, "dropped", "b", "a");
    Probe.press(full, Keys.YANK, Keys.POP, Keys.POP);
    Probe.line("a full ring wraps past what it dropped", full, "a", 1);
  }

  private static void popUpToTheLimit() {
    Expect.about("The key is REFUSED if n-|e[y]|+|e[z]| > MAX_LINE.");
    for (int n = 21; n <= 23; n++) {
      ReadlineEditor x = Make.ring(3, "0123456789", "ab");
      Probe.type(x, "+".repeat(n));
      Make.place(x, 5);
      Probe.press(x, Keys.YANK);
      if (n + 10 > 32) {
        Probe.refused(x, Keys.POP);
        Expect.same("y stays", yankIndex(x), 0);
        Probe.refused(x, Keys.POP);
      } else {
        Probe.press(x, Keys.POP);
        Probe.line("popped among " + n, x, "+".repeat(5) + "0123456789" + "+".repeat(n - 5), 15);
        Expect.same("y moves", yankIndex(x), 1);
      }
    }
  }

  private static void popShortensAFullLine() {
    Expect.about("The key is REFUSED if n-|e[y]|+|e[z]| > MAX_LINE. (n = 32)");
    ReadlineEditor x = Make.ring(3, "b", Make.text(2), Make.FULL);
    Probe.press(x, Keys.YANK);
    Probe.line("full", x, Make.FULL, 32);
    Probe.press(x, Keys.POP);
    Probe.line("32 to 2", x, "ab", 2);
    Probe.press(x, Keys.POP);
    Probe.line("2 to 1", x, "b", 1);
    Probe.press(x, Keys.POP);
    Probe.line("1 to 32", x, Make.FULL, 32);
    ReadlineEditor same = Make.ring(3, "XYZ", "xyz");
    Probe.type(same, Make.text(29));
    Probe.press(same, Keys.YANK, Keys.POP);
    Probe.line("32 to 32", same, Make.text(29) + "XYZ", 32);
  }

  private static void popReplaces() {
    Expect.about("The |e[y]| chars just before k are replaced by e[z]. k becomes k-|e[y]|+|e[z]|, and y becomes z.");
    for (int k = 0; k <= 4; k++) {
      ReadlineEditor x = Make.ring(3, "longest", "s", "mid");
      Probe.type(x, "<()>");
      Make.place(x, k);
      Probe.press(x, Keys.YANK);
      String[] shown = {"s", "longest", "mid"};
      for (int step = 0; step < 3; step++) {
        Probe.press(x, Keys.POP);
        String line = "<()>".substring(0, k) + shown[step] + "<()>".substring(k);
        Probe.line("pop " + step + " at " + k, x, line, k + shown[step].length());
        Expect.same("y", yankIndex(x), (step + 1) % 3);
      }
    }
  }

  private static void popPushesNothing() {
    Expect.about("There is no PUSH, so a yank and its pops form one undo group.");
    ReadlineEditor x = Make.ring(3, "c", "bb", "a");
    Probe.type(x, "xy");
    Probe.press(x, Keys.LEFT);
    int before = depth(x);
    Probe.press(x, Keys.YANK);
    for (int pops = 0; pops <= 7; pops++) {
      Expect.same("depth after " + pops, depth(x), before + 1);
      Probe.press(x, Keys.POP);
    }
    Probe.press(x, Keys.UNDO);
    Probe.line("one undo for all", x, "xy", 1);
    Expect.same("depth after it", depth(x), before);
    ReadlineEditor full = Make.ring(2, "bb", "a");
    Make.fillUndo(full);
    Probe.press(full, Keys.YANK);
    String levels = Parts.undo(full);
    Probe.press(full, Keys.POP);
    Expect.same("a pop at a full stack drops nothing", Parts.undo(full), levels);
  }

  private static void popKeepsLast() {
    Expect.about("last stays LAST_YANK.");
    for (int count = 1; count <= 4; count++) {
      ReadlineEditor x = Make.ring(4);
      for (int i = 0; i < count; i++) {
        Make.kill(x, "k" + i);
      }
      Probe.press(x, Keys.YANK);
      for (int pops = 0; pops < 6; pops++) {
        Probe.press(x, Keys.POP);
        Probe.last("after a pop", x, ReadlineEditor.LAST_YANK);
      }
    }
  }

  private static void popKeepsTheRing() {
    Expect.about("The kill ring itself is unchanged.");
    ReadlineEditor x = Make.ring(4, "d", "c", "b", "a");
    Probe.press(x, Keys.YANK);
    for (int step = 0; step < 9; step++) {
      Probe.press(x, Keys.POP);
      Probe.kills("after pop " + step, x, "a", "b", "c", "d");
    }
    Parts.changed(Make.withLast(ReadlineEditor.LAST_YANK), Keys.POP, "B", "k", "y");
  }

  private static void whoPushes() {
    Expect.about("Only printable chars, KEY_BACKSPACE, KEY_DELETE, the kills and KEY_YANK push onto the undo stack.");
    int[] pushing = {'x', ' ', '~', Keys.BACKSPACE, Keys.DELETE, Keys.KILL_END, Keys.KILL_FWD, Keys.KILL_START, Keys.KILL_BACK, Keys.YANK};
    for (int code : pushing) {
      ReadlineEditor x = Make.withLast(ReadlineEditor.LAST_OTHER);
      int before = depth(x);
      Probe.press(x, code);
      Expect.same("depth after " + code, depth(x), before + 1);
    }
    int[] keeping = {Keys.LEFT, Keys.RIGHT, Keys.HOME, Keys.END, Keys.WORD_LEFT, Keys.WORD_RIGHT, Keys.SEARCH};
    for (int code : keeping) {
      ReadlineEditor x = Make.withLast(ReadlineEditor.LAST_OTHER);
      String before = Parts.undo(x);
      Probe.press(x, code);
      Expect.same("undo after " + code, Parts.undo(x), before);
    }
    int[] emptying = {Keys.PREV, Keys.NEXT, Keys.ENTER};
    for (int code : emptying) {
      ReadlineEditor x = Make.withLast(ReadlineEditor.LAST_OTHER);
      Probe.press(x, code);
      Expect.same("depth after " + code, depth(x), 0);
    }
  }

  private static void whoKills() {
    Expect.about("Only the kills add to the kill ring.");
    for (int code = 0; code <= 210; code++) {
      for (int last : Make.LASTS) {
        ReadlineEditor x = Make.withLast(last);
        int before = x.info(ReadlineEditor.INFO_KILL_COUNT);
        String newest = Probe.kill(x, 0);
        x.key(code);
        boolean kills = code == 11 || code == 202 || code == 21 || code == 23;
        boolean adds = kills && last != ReadlineEditor.LAST_KILL;
        Expect.same("kc after " + code, x.info(ReadlineEditor.INFO_KILL_COUNT), adds ? before + 1 : before);
        if (!kills) {
          Expect.same("e[0] after " + code, Probe.kill(x, 0), newest);
        }
      }
    }
  }
}
