import java.util.Arrays;
import java.util.Map;
import java.util.TreeMap;
import java.util.TreeSet;

// The parts of the state, each as a text, to tell which of them a key changes.
final class Parts {
  private Parts() {}

  // Presses a key that must be taken and must change the named parts, and no other.
  static void changed(ReadlineEditor x, int code, String... names) {
    Map<String, String> before = of(x);
    Expect.same("key(" + code + ")", x.key(code), ReadlineEditor.OK);
    Map<String, String> after = of(x);
    TreeSet<String> found = new TreeSet<>();
    for (String name : before.keySet()) {
      if (!before.get(name).equals(after.get(name))) {
        found.add(name);
      }
    }
    Expect.same("what key(" + code + ") changed", found.toString(), new TreeSet<>(Arrays.asList(names)).toString());
    Probe.picture("after key(" + code + ")", x);
  }

  private static Map<String, String> of(ReadlineEditor x) {
    Map<String, String> parts = new TreeMap<>();
    parts.put("mode", "" + x.info(ReadlineEditor.INFO_MODE));
    parts.put("B", Probe.buffer(x) + "|" + x.info(ReadlineEditor.INFO_LENGTH));
    parts.put("k", "" + x.info(ReadlineEditor.INFO_CURSOR));
    parts.put("nav", "" + x.info(ReadlineEditor.INFO_NAV));
    parts.put("draft", Probe.draft(x) + "|" + x.info(ReadlineEditor.INFO_DRAFT_LENGTH));
    parts.put("last", "" + x.info(ReadlineEditor.INFO_LAST));
    parts.put("y", "" + x.info(ReadlineEditor.INFO_YANK_INDEX));
    parts.put("q", query(x));
    parts.put("m", "" + x.info(ReadlineEditor.INFO_MATCH));
    parts.put("accepted", "" + x.info(ReadlineEditor.INFO_ACCEPTED));
    parts.put("W", "" + x.info(ReadlineEditor.INFO_WIDTH));
    parts.put("history", history(x));
    parts.put("ring", ring(x));
    parts.put("undo", undo(x));
    return parts;
  }

  // The query is shown, and shown only, between the '?' and the ':' of a search.
  static String query(ReadlineEditor x) {
    int size = x.info(ReadlineEditor.INFO_QUERY_LENGTH);
    String display = Probe.display(x);
    return size <= display.length() - 1 ? display.substring(1, 1 + size) : "?";
  }

  static String undo(ReadlineEditor x) {
    StringBuilder all = new StringBuilder(x.info(ReadlineEditor.INFO_UNDO_DEPTH) + ":");
    for (int level = 0; level < 9; level++) {
      all.append(" [").append(Probe.undo(x, level)).append(']').append(x.undoCursor(level));
    }
    return all.toString();
  }

  private static String history(ReadlineEditor x) {
    StringBuilder all = new StringBuilder(x.info(ReadlineEditor.INFO_HISTORY_COUNT) + ":");
    for (int idx = 0; idx < 9; idx++) {
      all.append(" [").append(Probe.entry(x, idx)).append(']');
    }
    return all.toString();
  }

  private static String ring(ReadlineEditor x) {
    StringBuilder all = new StringBuilder(x.info(ReadlineEditor.INFO_KILL_COUNT) + ":");
    for (int idx = 0; idx < 5; idx++) {
      all.append(" [").append(Probe.kill(x, idx)).append(']');
    }
    return all.toString();
  }
}
