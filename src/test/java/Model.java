import java.util.ArrayList;
import java.util.List;

// The document once more, over the texts and lists of the Java library, to be compared with.
final class Model {
  final int width;
  final int historyCap;
  final int ringCap;
  String line = "";
  int cursor = 0;
  final List<String> history = new ArrayList<>();
  int nav = 0;
  String draft = "";
  final List<String> ring = new ArrayList<>();
  final List<String> undoTexts = new ArrayList<>();
  final List<Integer> undoCursors = new ArrayList<>();
  int last = 0;
  int yankIndex = 0;
  boolean searching = false;
  String query = "";
  int match = -1;
  int matchStart = 0;
  int accepted = 0;

  Model(int width, int historyCap, int ringCap) {
    this.width = Math.max(4, Math.min(16, width));
    this.historyCap = Math.max(1, Math.min(8, historyCap));
    this.ringCap = Math.max(1, Math.min(4, ringCap));
  }

  boolean key(int code) {
    if (searching) {
      return searchKey(code);
    }
    boolean taken = editKey(code);
    if (taken && !setsLast(code)) {
      last = 0;
    }
    return taken;
  }

  private static boolean printable(int code) {
    return code >= 32 && code <= 126;
  }

  private static boolean setsLast(int code) {
    return printable(code) || code == 11 || code == 202 || code == 21 || code == 23 || code == 25 || code == 203;
  }

  private boolean searchKey(int code) {
    if (printable(code)) {
      return query.length() < 16 && find(query + (char) code, match >= 0 ? match : history.size() - 1);
    }
    if (code == 18) {
      return find(query, match >= 0 ? match - 1 : history.size() - 1);
    }
    if (code == 8 && !query.isEmpty()) {
      query = query.substring(0, query.length() - 1);
      matchStart = history.get(match).indexOf(query);
      return true;
    }
    if (code == 13 || code == 7) {
      if (code == 13 && match >= 0) {
        line = history.get(match);
        cursor = matchStart;
        clearUndo();
      }
      searching = false;
      query = "";
      match = -1;
      return true;
    }
    return false;
  }

  private boolean find(String text, int from) {
    for (int i = from; i >= 0; i--) {
      if (history.get(i).contains(text)) {
        query = text;
        match = i;
        matchStart = history.get(i).indexOf(text);
        return true;
      }
    }
    return false;
  }

  private boolean editKey(int code) {
    if (printable(code)) {
      if (line.length() == 32) {
        return false;
      }
      if (last != 1) {
        push();
      }
      replace(cursor, cursor, "" + (char) code);
      last = 1;
      return true;
    }
    switch (code) {
      case 2: return move(Math.max(0, cursor - 1));
      case 6: return move(Math.min(line.length(), cursor + 1));
      case 1: return move(0);
      case 5: return move(line.length());
      case 200: return move(wordLeft());
      case 201: return move(wordRight());
      case 8: return delete(cursor - 1);
      case 4: return delete(cursor);
      case 11: return kill(cursor, line.length(), true);
      case 202: return kill(cursor, wordRight(), true);
      case 21: return kill(0, cursor, false);
      case 23: return kill(wordLeft(), cursor, false);
      case 25: return yank();
      case 203: return yankPop();
      case 31: return undo();
      case 16: return older();
      case 14: return newer();
      case 13: return enter();
      case 18: return search();
      default: return false;
    }
  }

  private void push() {
    undoTexts.add(0, line);
    undoCursors.add(0, cursor);
    if (undoTexts.size() > 8) {
      undoTexts.remove(8);
      undoCursors.remove(8);
    }
  }

  private void clearUndo() {
    undoTexts.clear();
    undoCursors.clear();
  }

  private void replace(int start, int end, String text) {
    line = line.substring(0, start) + text + line.substring(end);
    cursor = start + text.length();
  }

  private boolean move(int target) {
    boolean moved = target != cursor;
    cursor = target;
    return moved;
  }

  private boolean wordAt(int index) {
    return Character.isLetterOrDigit(line.charAt(index));
  }

  private int wordLeft() {
    int t = cursor;
    while (t > 0 && !wordAt(t - 1)) {
      t--;
    }
    while (t > 0 && wordAt(t - 1)) {
      t--;
    }
    return t;
  }

  private int wordRight() {
    int t = cursor;
    while (t < line.length() && !wordAt(t)) {
      t++;
    }
    while (t < line.length() && wordAt(t)) {
      t++;
    }
    return t;
  }

  private boolean delete(int at) {
    if (at < 0 || at >= line.length()) {
      return false;
    }
    push();
    replace(at, at + 1, "");
    return true;
  }

  private boolean kill(int start, int end, boolean forward) {
    if (start == end) {
      return false;
    }
    push();
    String text = line.substring(start, end);
    if (last == 2) {
      ring.set(0, forward ? ring.get(0) + text : text + ring.get(0));
    } else {
      ring.add(0, text);
      if (ring.size() > ringCap) {
        ring.remove(ringCap);
      }
    }
    replace(start, end, "");
    last = 2;
    return true;
  }

  private boolean yank() {
    if (ring.isEmpty() || line.length() + ring.get(0).length() > 32) {
      return false;
    }
    push();
    replace(cursor, cursor, ring.get(0));
    yankIndex = 0;
    last = 3;
    return true;
  }

  private boolean yankPop() {
    if (last != 3) {
      return false;
    }
    int next = (yankIndex + 1) % ring.size();
    int before = ring.get(yankIndex).length();
    if (line.length() - before + ring.get(next).length() > 32) {
      return false;
    }
    replace(cursor - before, cursor, ring.get(next));
    yankIndex = next;
    return true;
  }

  private boolean undo() {
    if (undoTexts.isEmpty()) {
      return false;
    }
    line = undoTexts.remove(0);
    cursor = undoCursors.remove(0);
    return true;
  }

  private boolean older() {
    if (nav == 0) {
      return false;
    }
    if (nav == history.size()) {
      draft = line;
    }
    nav--;
    show(history.get(nav));
    return true;
  }

  private boolean newer() {
    if (nav == history.size()) {
      return false;
    }
    nav++;
    if (nav == history.size()) {
      show(draft);
      draft = "";
    } else {
      show(history.get(nav));
    }
    return true;
  }

  private void show(String text) {
    line = text;
    cursor = text.length();
    clearUndo();
  }

  private boolean enter() {
    if (!line.isEmpty()) {
      history.add(line);
      if (history.size() > historyCap) {
        history.remove(0);
      }
    }
    show("");
    nav = history.size();
    draft = "";
    accepted++;
    return true;
  }

  private boolean search() {
    if (history.isEmpty()) {
      return false;
    }
    searching = true;
    query = "";
    match = -1;
    return true;
  }

  private String display() {
    return searching ? "?" + query + ": " + (match >= 0 ? history.get(match) : line) : "> " + line;
  }

  private int displayCursor() {
    if (!searching) {
      return 2 + cursor;
    }
    return 3 + query.length() + (match >= 0 ? matchStart : cursor);
  }

  // In the form of Probe.everything.
  String everything() {
    String shown = display();
    int at = displayCursor();
    int[] infos = {
      searching ? 1 : 0, line.length(), cursor, nav, history.size(), ring.size(), undoTexts.size(), last,
      last == 3 ? yankIndex : -1, match, query.length(), accepted, shown.length(), at, width, draft.length()
    };
    StringBuilder all = new StringBuilder();
    for (int info : infos) {
      all.append(info).append(' ');
    }
    all.append('[').append(line).append("][").append(draft).append(']');
    for (int i = 0; i < 9; i++) {
      all.append(" h[").append(i < history.size() ? history.get(i) : "").append(']');
      all.append(" e[").append(i < ring.size() ? ring.get(i) : "").append(']');
      boolean kept = i < undoTexts.size();
      all.append(" u[").append(kept ? undoTexts.get(i) : "").append(']').append(kept ? undoCursors.get(i) : -1);
    }
    all.append(" d[").append(shown).append("] s[").append(Probe.padded(shown, 16 * width)).append(']');
    all.append(at / width).append(',').append(at % width);
    return all.toString();
  }
}
