import java.util.ArrayList;
import java.util.List;

// Promise 2 from states that stand at an edge: every code, and every key after it, is compared with Model.
public final class EdgeStatesTest {
  private static final int[] NEAR = {-1, 0, 3, 9, 10, 12, 15, 17, 19, 20, 22, 24, 26, 30, 127, 128, 199, 204};
  private static final String TYPED = " ab5-~";

  public static void main(String[] args) {
    Expect.about("every rule of promise 2, from a state at an edge");
    int[] codes = Keys.run(Keys.named(), NEAR, TYPED);
    for (int[] start : starts()) {
      for (int code : codes) {
        Pair first = run(start);
        first.key(code);
        for (int next : codes) {
          Pair second = run(start);
          second.key(code);
          second.key(next);
        }
      }
    }
    Expect.finish();
  }

  private static Pair run(int[] start) {
    Pair pair = new Pair();
    for (int code : start) {
      pair.quietKey(code);
    }
    return pair;
  }

  // An editor and its model that are given the same keys.
  private static final class Pair {
    private final ReadlineEditor x = new ReadlineEditor(5, 2, 2);
    private final Model model = new Model(5, 2, 2);
    private final StringBuilder keys = new StringBuilder();

    void quietKey(int code) {
      keys.append(' ').append(code);
      x.key(code);
      model.key(code);
    }

    void key(int code) {
      keys.append(' ').append(code);
      int got = x.key(code);
      Expect.same("keys" + keys, got, model.key(code) ? 1 : 0);
      Expect.same("everything after" + keys, Probe.everything(x), model.everything());
    }
  }

  private static List<int[]> starts() {
    String full = Make.FULL;
    List<int[]> starts = new ArrayList<>();
    starts.add(Keys.run());
    starts.add(Keys.run("a"));
    starts.add(Keys.run("a", Keys.LEFT));
    starts.add(Keys.run(Make.text(31)));
    starts.add(Keys.run(full));
    starts.add(Keys.run(full, Keys.HOME));
    starts.add(Keys.run("--", Keys.LEFT));
    starts.add(Keys.run("b a", Keys.LEFT));
    starts.add(Keys.run("a b", Keys.KILL_BACK));
    starts.add(Keys.run(full, Keys.KILL_START));
    starts.add(Keys.run(full, Keys.KILL_START, Keys.YANK));
    starts.add(Keys.run("a", Keys.KILL_START, full, Keys.KILL_START, Keys.YANK, Keys.POP));
    starts.add(Keys.run("a", Keys.KILL_START, "bb", Keys.KILL_START, "ccc", Keys.KILL_START, Keys.YANK));
    starts.add(Keys.run("bb", Keys.KILL_START, "a", Keys.KILL_START, Make.text(31), Keys.YANK));
    starts.add(Keys.run(full, Keys.BACKSPACE, Keys.BACKSPACE, Keys.BACKSPACE, Keys.BACKSPACE, Keys.BACKSPACE, Keys.BACKSPACE));
    starts.add(Keys.run(full, Keys.BACKSPACE, Keys.BACKSPACE, Keys.BACKSPACE, Keys.BACKSPACE, Keys.BACKSPACE, Keys.BACKSPACE, Keys.BACKSPACE));
    starts.add(Keys.run("a", Keys.ENTER));
    starts.add(Keys.run("a", Keys.ENTER, Keys.PREV));
    starts.add(Keys.run("a", Keys.ENTER, full, Keys.ENTER, "ab"));
    starts.add(Keys.run("a", Keys.ENTER, full, Keys.ENTER, "ab", Keys.ENTER, full, Keys.PREV));
    starts.add(Keys.run("a", Keys.ENTER, full, Keys.ENTER, "ab", Keys.PREV, Keys.PREV));
    starts.add(Keys.run("a", Keys.ENTER, Keys.SEARCH));
    starts.add(Keys.run("a", Keys.ENTER, "b", Keys.SEARCH, Keys.SEARCH));
    starts.add(Keys.run("a", Keys.ENTER, "ba", Keys.ENTER, full, Keys.SEARCH, "a"));
    starts.add(Keys.run("a", Keys.ENTER, "ba", Keys.ENTER, full, Keys.SEARCH, "a", Keys.SEARCH));
    starts.add(Keys.run(full, Keys.ENTER, Keys.SEARCH, Make.text(15)));
    starts.add(Keys.run(full, Keys.ENTER, Keys.SEARCH, full.substring(16, 31)));
    starts.add(Keys.run(full, Keys.ENTER, Keys.SEARCH, full.substring(16)));
    starts.add(Keys.run(full, Keys.ENTER, full, Keys.PREV, Keys.SEARCH, "5", Keys.ENTER));
    return starts;
  }
}
