import java.util.ArrayList;
import java.util.List;

// Promise 2 from states that stand at an edge: every code, and every key after it, is compared with Model.
public final class EdgeStatesTest {
  private static final int[] NEAR = {-1, 0, 3, 9, 10, 12, 15, 17, 19, 20, 22, 24, 26, 30, 127, 128, 199, 204};
  private static final int[] TYPED = {' ', 'a', 'b', '5', '-', '~'};

  public static void main(String[] args) {
    Expect.about("every rule of promise 2, from a state at an edge");
    for (int[] start : starts()) {
      for (int code : codes()) {
        Pair first = run(start);
        first.key(code);
        for (int next : codes()) {
          Pair second = run(start);
          second.key(code);
          second.key(next);
        }
      }
    }
    Expect.finish();
  }

  private static int[] codes() {
    List<Integer> all = new ArrayList<>();
    for (int code : Keys.named()) {
      all.add(code);
    }
    for (int code : NEAR) {
      all.add(code);
    }
    for (int code : TYPED) {
      all.add(code);
    }
    return all.stream().mapToInt(Integer::intValue).toArray();
  }

  private static Pair run(int[] start) {
    Pair pair = new Pair();
    for (int code : start) {
      pair.quietKey(code);
    }
    return pair;
  }

  // An editor and its model that are given the same keys.
  private static final class Pair {
    private final ReadlineEditor x = new ReadlineEditor(5, 2, 2);
    private final Model model = new Model(5, 2, 2);
    private final StringBuilder keys = new StringBuilder();

    void quietKey(int code) {
      keys.append(' ').append(code);
      x.key(code);
      model.key(code);
    }

    void key(int code) {
      keys.append(' ').append(code);
      int got = x.key(code);
      Expect.same("keys" + keys, got, model.key(code) ? 1 : 0);
      Expect.same("everything after" + keys, Probe.everything(x), model.everything());
    }
  }

  private static int[] keys(Object... parts) {
    List<Integer> all = new ArrayList<>();
    for (Object part : parts) {
      if (part instanceof Integer) {
        all.add((Integer) part);
      } else {
        part.toString().chars().forEach(all::add);
      }
    }
    return all.stream().mapToInt(Integer::intValue).toArray();
  }

  private static List<int[]> starts() {
    String full = Make.FULL;
    List<int[]> starts = new ArrayList<>();
    starts.add(keys());
    starts.add(keys("a"));
    starts.add(keys("a", Keys.LEFT));
    starts.add(keys(Make.text(31)));
    starts.add(keys(full));
    starts.add(keys(full, Keys.HOME));
    starts.add(keys("--", Keys.LEFT));
    starts.add(keys("b a", Keys.LEFT));
    starts.add(keys("a b", Keys.KILL_BACK));
    starts.add(keys(full, Keys.KILL_START));
    starts.add(keys(full, Keys.KILL_START, Keys.YANK));
    starts.add(keys("a", Keys.KILL_START, full, Keys.KILL_START, Keys.YANK, Keys.POP));
    starts.add(keys("a", Keys.KILL_START, "bb", Keys.KILL_START, "ccc", Keys.KILL_START, Keys.YANK));
    starts.add(keys("bb", Keys.KILL_START, "a", Keys.KILL_START, Make.text(31), Keys.YANK));
    starts.add(keys(full, Keys.BACKSPACE, Keys.BACKSPACE, Keys.BACKSPACE, Keys.BACKSPACE, Keys.BACKSPACE, Keys.BACKSPACE));
    starts.add(keys(full, Keys.BACKSPACE, Keys.BACKSPACE, Keys.BACKSPACE, Keys.BACKSPACE, Keys.BACKSPACE, Keys.BACKSPACE, Keys.BACKSPACE));
    starts.add(keys("a", Keys.ENTER));
    starts.add(keys("a", Keys.ENTER, Keys.PREV));
    starts.add(keys("a", Keys.ENTER, full, Keys.ENTER, "ab"));
    starts.add(keys("a", Keys.ENTER, full, Keys.ENTER, "ab", Keys.ENTER, full, Keys.PREV));
    starts.add(keys("a", Keys.ENTER, full, Keys.ENTER, "ab", Keys.PREV, Keys.PREV));
    starts.add(keys("a", Keys.ENTER, Keys.SEARCH));
    starts.add(keys("a", Keys.ENTER, "b", Keys.SEARCH, Keys.SEARCH));
    starts.add(keys("a", Keys.ENTER, "ba", Keys.ENTER, full, Keys.SEARCH, "a"));
    starts.add(keys("a", Keys.ENTER, "ba", Keys.ENTER, full, Keys.SEARCH, "a", Keys.SEARCH));
    starts.add(keys(full, Keys.ENTER, Keys.SEARCH, Make.text(15)));
    starts.add(keys(full, Keys.ENTER, Keys.SEARCH, full.substring(16, 31)));
    starts.add(keys(full, Keys.ENTER, Keys.SEARCH, full.substring(16)));
    starts.add(keys(full, Keys.ENTER, full, Keys.PREV, Keys.SEARCH, "5", Keys.ENTER));
    return starts;
  }
}
