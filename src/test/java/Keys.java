import java.util.ArrayList;
import java.util.List;

// Short names for the keys, so that a run of keys fits on a line.
final class Keys {
  static final int HOME = ReadlineEditor.KEY_HOME;
  static final int LEFT = ReadlineEditor.KEY_LEFT;
  static final int DELETE = ReadlineEditor.KEY_DELETE;
  static final int END = ReadlineEditor.KEY_END;
  static final int RIGHT = ReadlineEditor.KEY_RIGHT;
  static final int CANCEL = ReadlineEditor.KEY_CANCEL;
  static final int BACKSPACE = ReadlineEditor.KEY_BACKSPACE;
  static final int KILL_END = ReadlineEditor.KEY_KILL_END;
  static final int ENTER = ReadlineEditor.KEY_ENTER;
  static final int NEXT = ReadlineEditor.KEY_HIST_NEXT;
  static final int PREV = ReadlineEditor.KEY_HIST_PREV;
  static final int SEARCH = ReadlineEditor.KEY_SEARCH;
  static final int KILL_START = ReadlineEditor.KEY_KILL_START;
  static final int KILL_BACK = ReadlineEditor.KEY_KILL_WORD_BACK;
  static final int YANK = ReadlineEditor.KEY_YANK;
  static final int UNDO = ReadlineEditor.KEY_UNDO;
  static final int WORD_LEFT = ReadlineEditor.KEY_WORD_LEFT;
  static final int WORD_RIGHT = ReadlineEditor.KEY_WORD_RIGHT;
  static final int KILL_FWD = ReadlineEditor.KEY_KILL_WORD_FWD;
  static final int POP = ReadlineEditor.KEY_YANK_POP;

  // Written as numbers, so that a constant with a wrong value is found here too.
  private static final int[] NAMED = {1, 2, 4, 5, 6, 7, 8, 11, 13, 14, 16, 18, 21, 23, 25, 31, 200, 201, 202, 203};

  private Keys() {}

  static int[] named() {
    return NAMED.clone();
  }

  // A run of keys, out of single codes, texts to type and other runs.
  static int[] run(Object... parts) {
    List<Integer> all = new ArrayList<>();
    for (Object part : parts) {
      if (part instanceof int[]) {
        for (int code : (int[]) part) {
          all.add(code);
        }
      } else if (part instanceof Integer) {
        all.add((Integer) part);
      } else {
        part.toString().chars().forEach(all::add);
      }
    }
    return all.stream().mapToInt(Integer::intValue).toArray();
  }

  static boolean isPrintable(int code) {
    return code >= 32 && code <= 126;
  }

  static boolean isKey(int code) {
    for (int key : NAMED) {
      if (key == code) {
        return true;
      }
    }
    return isPrintable(code);
  }
}
