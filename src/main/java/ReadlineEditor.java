// The line-editing core of a shell prompt: one keystroke code per call to key.
//
// Texts that come in lists (history, kill ring, undo stack) lie in slots of
// MAX_LINE cells, the oldest in slot 0, so that all three can drop their oldest
// in the same way.
public final class ReadlineEditor {
  public static final int REFUSED = 0;
  public static final int OK = 1;
  public static final int MODE_EDIT = 0;
  public static final int MODE_SEARCH = 1;
  public static final int LAST_OTHER = 0;
  public static final int LAST_INSERT = 1;
  public static final int LAST_KILL = 2;
  public static final int LAST_YANK = 3;
  public static final int MAX_LINE = 32;
  public static final int MAX_QUERY = 16;
  public static final int UNDO_CAP = 8;
  public static final int SCREEN_ROWS = 16;
  public static final int KEY_HOME = 1;
  public static final int KEY_LEFT = 2;
  public static final int KEY_DELETE = 4;
  public static final int KEY_END = 5;
  public static final int KEY_RIGHT = 6;
  public static final int KEY_CANCEL = 7;
  public static final int KEY_BACKSPACE = 8;
  public static final int KEY_KILL_END = 11;
  public static final int KEY_ENTER = 13;
  public static final int KEY_HIST_NEXT = 14;
  public static final int KEY_HIST_PREV = 16;
  public static final int KEY_SEARCH = 18;
  public static final int KEY_KILL_START = 21;
  public static final int KEY_KILL_WORD_BACK = 23;
  public static final int KEY_YANK = 25;
  public static final int KEY_UNDO = 31;
  public static final int KEY_WORD_LEFT = 200;
  public static final int KEY_WORD_RIGHT = 201;
  public static final int KEY_KILL_WORD_FWD = 202;
  public static final int KEY_YANK_POP = 203;
  public static final int INFO_MODE = 0;
  public static final int INFO_LENGTH = 1;
  public static final int INFO_CURSOR = 2;
  public static final int INFO_NAV = 3;
  public static final int INFO_HISTORY_COUNT = 4;
  public static final int INFO_KILL_COUNT = 5;
  public static final int INFO_UNDO_DEPTH = 6;
  public static final int INFO_LAST = 7;
  public static final int INFO_YANK_INDEX = 8;
  public static final int INFO_MATCH = 9;
  public static final int INFO_QUERY_LENGTH = 10;
  public static final int INFO_ACCEPTED = 11;
  public static final int INFO_DISPLAY_LENGTH = 12;
  public static final int INFO_DISPLAY_CURSOR = 13;
  public static final int INFO_WIDTH = 14;
  public static final int INFO_DRAFT_LENGTH = 15;

  private static final int NONE = -1;
  private static final int SPACE = 32;
  private static final int FIRST_PRINTABLE = 32;
  private static final int LAST_PRINTABLE = 126;
  private static final int MIN_WIDTH = 4;
  private static final int MAX_WIDTH = 16;
  private static final int MIN_HISTORY = 1;
  private static final int MAX_HISTORY = 8;
  private static final int MIN_RING = 1;
  private static final int MAX_RING = 4;
  private static final int HISTORY_CELLS = MAX_HISTORY * MAX_LINE;
  private static final int RING_CELLS = MAX_RING * MAX_LINE;
  private static final int UNDO_CELLS = UNDO_CAP * MAX_LINE;
  private static final int SCREEN_CELLS = SCREEN_ROWS * MAX_WIDTH;
  // The longest display is a search: '?', the query, ':', ' ' and a line.
  private static final int DISPLAY_CELLS = 3 + MAX_QUERY + MAX_LINE;

  private final int width;
  private final int historyCap;
  private final int ringCap;

  private final int[] buffer = new int[MAX_LINE];
  private int length = 0;
  private int cursor = 0;

  private final int[] history = new int[HISTORY_CELLS];
  private final int[] historyLengths = new int[MAX_HISTORY];
  private int historyCount = 0;
  private int nav = 0;

  private final int[] draft = new int[MAX_LINE];
  private int draftLength = 0;

  private final int[] ring = new int[RING_CELLS];
  private final int[] ringLengths = new int[MAX_RING];
  private int ringCount = 0;
  private int yankIndex = 0;

  private final int[] undoTexts = new int[UNDO_CELLS];
  private final int[] undoLengths = new int[UNDO_CAP];
  private final int[] undoCursors = new int[UNDO_CAP];
  private int undoDepth = 0;

  private int mode = MODE_EDIT;
  private int last = LAST_OTHER;
  private int accepted = 0;

  private final int[] query = new int[MAX_QUERY];
  private int queryLength = 0;
  private int match = NONE;
  private int matchStart = 0;

  private final int[] display = new int[DISPLAY_CELLS];
  private int displayLength = 0;
  private int displayCursor = 0;

  private final int[] screen = new int[SCREEN_CELLS];
  private int terminalRow = 0;
  private int terminalCol = 0;

  public ReadlineEditor(int width, int historyCap, int ringCap) {
    this.width = clamp(width, MIN_WIDTH, MAX_WIDTH);
    this.historyCap = clamp(historyCap, MIN_HISTORY, MAX_HISTORY);
    this.ringCap = clamp(ringCap, MIN_RING, MAX_RING);
    refresh();
  }

  public int key(int code) {
    int answer = mode == MODE_SEARCH ? searchKey(code) : editKey(code);
    if (answer == OK) {
      refresh();
    }
    return answer;
  }

  public int info(int which) {
    switch (which) {
      case INFO_MODE: return mode;
      case INFO_LENGTH: return length;
      case INFO_CURSOR: return cursor;
      case INFO_NAV: return nav;
      case INFO_HISTORY_COUNT: return historyCount;
      case INFO_KILL_COUNT: return ringCount;
      case INFO_UNDO_DEPTH: return undoDepth;
      case INFO_LAST: return last;
      case INFO_YANK_INDEX: return last == LAST_YANK ? yankIndex : NONE;
      case INFO_MATCH: return match;
      case INFO_QUERY_LENGTH: return queryLength;
      case INFO_ACCEPTED: return accepted;
      case INFO_DISPLAY_LENGTH: return displayLength;
      case INFO_DISPLAY_CURSOR: return displayCursor;
      case INFO_WIDTH: return width;
      case INFO_DRAFT_LENGTH: return draftLength;
      default: return NONE;
    }
  }

  public int bufferChar(int pos) {
    return isWithin(pos, length) ? buffer[pos] : NONE;
  }

  public int draftChar(int pos) {
    return isWithin(pos, draftLength) ? draft[pos] : NONE;
  }

  public int historyChar(int idx, int pos) {
    if (!isWithin(idx, historyCount)) {
      return NONE;
    }
    return slotChar(history, historyLengths, idx, pos);
  }

  public int killChar(int idx, int pos) {
    if (!isWithin(idx, ringCount)) {
      return NONE;
    }
    int slot = ringSlot(idx);
    return slotChar(ring, ringLengths, slot, pos);
  }

  public int undoChar(int level, int pos) {
    if (!isWithin(level, undoDepth)) {
      return NONE;
    }
    int slot = undoSlot(level);
    return slotChar(undoTexts, undoLengths, slot, pos);
  }

  public int undoCursor(int level) {
    if (!isWithin(level, undoDepth)) {
      return NONE;
    }
    int slot = undoSlot(level);
    return undoCursors[slot];
  }

  public int displayChar(int i) {
    return isWithin(i, displayLength) ? display[i] : NONE;
  }

  public int screenChar(int row, int col) {
    if (!isWithin(row, SCREEN_ROWS) || !isWithin(col, width)) {
      return NONE;
    }
    return screen[row * width + col];
  }

  public int screenCursorRow() {
    return terminalRow;
  }

  public int screenCursorCol() {
    return terminalCol;
  }

  // ---- search mode ----

  private int searchKey(int code) {
    if (isPrintable(code)) {
      return growQuery(code);
    }
    switch (code) {
      case KEY_SEARCH: return searchOlder();
      case KEY_BACKSPACE: return shrinkQuery();
      case KEY_ENTER: return takeMatch();
      case KEY_CANCEL: return leaveSearch();
      default: return REFUSED;
    }
  }

  private int growQuery(int code) {
    if (queryLength >= MAX_QUERY) {
      return REFUSED;
    }
    // A cell past the query's end is not part of it, so a refusal leaves no trace.
    query[queryLength] = code;
    int from = match >= 0 ? match : historyCount - 1;
    return seek(from, queryLength + 1);
  }

  private int searchOlder() {
    int from = match >= 0 ? match - 1 : historyCount - 1;
    return seek(from, queryLength);
  }

  private int seek(int from, int size) {
    for (int i = from; i >= 0; i--) {
      int start = startInEntry(i, size);
      if (start >= 0) {
        match = i;
        matchStart = start;
        queryLength = size;
        return OK;
      }
    }
    return REFUSED;
  }

  private int shrinkQuery() {
    if (queryLength == 0 || match < 0) {
      return REFUSED;
    }
    queryLength--;
    // What begins the longer query stands wherever that one stood, so it is found.
    matchStart = startInEntry(match, queryLength);
    return OK;
  }

  private int takeMatch() {
    if (match >= 0) {
      loadHistory(match);
      cursor = matchStart;
    }
    return leaveSearch();
  }

  private int leaveSearch() {
    mode = MODE_EDIT;
    queryLength = 0;
    match = NONE;
    return OK;
  }

  private int startInEntry(int entry, int size) {
    int base = entry * MAX_LINE;
    int lastStart = historyLengths[entry] - size;
    for (int start = 0; start <= lastStart; start++) {
      if (queryStandsAt(base + start, size)) {
        return start;
      }
    }
    return NONE;
  }

  private boolean queryStandsAt(int at, int size) {
    for (int i = 0; i < size; i++) {
      if (history[at + i] != query[i]) {
        return false;
      }
    }
    return true;
  }

  // ---- edit mode ----

  private int editKey(int code) {
    if (isPrintable(code)) {
      return typeChar(code);
    }
    switch (code) {
      case KEY_BACKSPACE: return erase(cursor - 1);
      case KEY_DELETE: return erase(cursor);
      case KEY_YANK: return yank();
      case KEY_YANK_POP: return yankPop();
      case KEY_UNDO: return undo();
      case KEY_HIST_PREV: return stepOlder();
      case KEY_HIST_NEXT: return stepNewer();
      case KEY_ENTER: return acceptLine();
      case KEY_SEARCH: return startSearch();
      case KEY_KILL_END:
      case KEY_KILL_WORD_FWD:
      case KEY_KILL_START:
      case KEY_KILL_WORD_BACK: return killKey(code);
      default: return moveKey(code);
    }
  }

  // Every key that edit mode takes ends here, as each one settles what last becomes.
  private int taken(int kind) {
    last = kind;
    return OK;
  }

  private int typeChar(int code) {
    if (length >= MAX_LINE) {
      return REFUSED;
    }
    if (last != LAST_INSERT) {
      pushUndo();
    }
    openGap(cursor, 1);
    buffer[cursor] = code;
    cursor++;
    return taken(LAST_INSERT);
  }

  private int moveKey(int code) {
    int target = cursor;
    switch (code) {
      case KEY_LEFT: target = cursor - 1; break;
      case KEY_RIGHT: target = cursor + 1; break;
      case KEY_HOME: target = 0; break;
      case KEY_END: target = length; break;
      case KEY_WORD_LEFT: target = wordLeft(); break;
      case KEY_WORD_RIGHT: target = wordRight(); break;
      default: return REFUSED;
    }
    if (target < 0 || target > length || target == cursor) {
      return REFUSED;
    }
    cursor = target;
    return taken(LAST_OTHER);
  }

  private int erase(int at) {
    if (!isWithin(at, length)) {
      return REFUSED;
    }
    pushUndo();
    closeGap(at, 1);
    cursor = at;
    return taken(LAST_OTHER);
  }

  private int killKey(int code) {
    int start = cursor;
    int end = cursor;
    switch (code) {
      case KEY_KILL_END: end = length; break;
      case KEY_KILL_WORD_FWD: end = wordRight(); break;
      case KEY_KILL_START: start = 0; break;
      case KEY_KILL_WORD_BACK: start = wordLeft(); break;
      default: return REFUSED;
    }
    if (start >= end) {
      return REFUSED;
    }
    boolean forward = start == cursor;
    pushUndo();
    // A kill that chains to none grows an empty entry, so that both cases grow one.
    if (last != LAST_KILL) {
      addEmptyKill();
    }
    growKill(start, end - start, forward);
    closeGap(start, end - start);
    cursor = start;
    return taken(LAST_KILL);
  }

  // Chained kills take disjoint chars of one buffer: the entry stays within its slot.
  private void growKill(int start, int count, boolean forward) {
    int slot = ringSlot(0);
    int base = slot * MAX_LINE;
    int size = ringLengths[slot];
    int at = base + size;
    if (!forward) {
      for (int i = size - 1; i >= 0; i--) {
        ring[base + i + count] = ring[base + i];
      }
      at = base;
    }
    copyCells(buffer, start, ring, at, count);
    ringLengths[slot] = size + count;
  }

  private void addEmptyKill() {
    if (ringCount == ringCap) {
      dropOldest(ring, ringLengths, ringCount);
      ringCount--;
    }
    ringLengths[ringCount] = 0;
    ringCount++;
  }

  private int yank() {
    if (ringCount == 0) {
      return REFUSED;
    }
    int size = killLength(0);
    if (length + size > MAX_LINE) {
      return REFUSED;
    }
    pushUndo();
    insertKill(0);
    return taken(LAST_YANK);
  }

  private int yankPop() {
    if (last != LAST_YANK || ringCount == 0) {
      return REFUSED;
    }
    int next = (yankIndex + 1) % ringCount;
    int oldSize = killLength(yankIndex);
    int nextSize = killLength(next);
    if (length - oldSize + nextSize > MAX_LINE) {
      return REFUSED;
    }
    cursor -= oldSize;
    closeGap(cursor, oldSize);
    insertKill(next);
    return taken(LAST_YANK);
  }

  private void insertKill(int index) {
    int slot = ringSlot(index);
    int size = ringLengths[slot];
    openGap(cursor, size);
    copyCells(ring, slot * MAX_LINE, buffer, cursor, size);
    cursor += size;
    yankIndex = index;
  }

  private int undo() {
    if (undoDepth == 0) {
      return REFUSED;
    }
    int slot = undoSlot(0);
    length = undoLengths[slot];
    copyCells(undoTexts, slot * MAX_LINE, buffer, 0, length);
    cursor = undoCursors[slot];
    undoDepth--;
    return taken(LAST_OTHER);
  }

  private int stepOlder() {
    if (nav == 0) {
      return REFUSED;
    }
    if (nav == historyCount) {
      draftLength = length;
      copyCells(buffer, 0, draft, 0, length);
    }
    nav--;
    loadHistory(nav);
    return taken(LAST_OTHER);
  }

  private int stepNewer() {
    if (nav == historyCount) {
      return REFUSED;
    }
    nav++;
    if (nav == historyCount) {
      loadDraft();
    } else {
      loadHistory(nav);
    }
    return taken(LAST_OTHER);
  }

  private int acceptLine() {
    if (length > 0) {
      addHistory();
    }
    length = 0;
    cursor = 0;
    nav = historyCount;
    draftLength = 0;
    undoDepth = 0;
    accepted++;
    return taken(LAST_OTHER);
  }

  private int startSearch() {
    if (historyCount == 0) {
      return REFUSED;
    }
    mode = MODE_SEARCH;
    queryLength = 0;
    match = NONE;
    return taken(LAST_OTHER);
  }

  // ---- the buffer ----

  private void openGap(int at, int count) {
    for (int i = length - 1; i >= at; i--) {
      buffer[i + count] = buffer[i];
    }
    length += count;
  }

  private void closeGap(int at, int count) {
    for (int i = at + count; i < length; i++) {
      buffer[i - count] = buffer[i];
    }
    length -= count;
  }

  // A line from elsewhere ends the edits of the one before, so undo must not reach them.
  private void loadHistory(int entry) {
    length = historyLengths[entry];
    copyCells(history, entry * MAX_LINE, buffer, 0, length);
    cursor = length;
    undoDepth = 0;
  }

  private void loadDraft() {
    length = draftLength;
    copyCells(draft, 0, buffer, 0, length);
    cursor = length;
    draftLength = 0;
    undoDepth = 0;
  }

  private int wordLeft() {
    int t = cursor;
    while (t > 0 && !isWordChar(buffer[t - 1])) {
      t--;
    }
    while (t > 0 && isWordChar(buffer[t - 1])) {
      t--;
    }
    return t;
  }

  private int wordRight() {
    int t = cursor;
    while (t < length && !isWordChar(buffer[t])) {
      t++;
    }
    while (t < length && isWordChar(buffer[t])) {
      t++;
    }
    return t;
  }

  // ---- lists of texts ----

  private void addHistory() {
    if (historyCount == historyCap) {
      dropOldest(history, historyLengths, historyCount);
      historyCount--;
    }
    copyCells(buffer, 0, history, historyCount * MAX_LINE, length);
    historyLengths[historyCount] = length;
    historyCount++;
  }

  private void pushUndo() {
    if (undoDepth == UNDO_CAP) {
      dropOldest(undoTexts, undoLengths, undoDepth);
      copyCells(undoCursors, 1, undoCursors, 0, undoDepth - 1);
      undoDepth--;
    }
    copyCells(buffer, 0, undoTexts, undoDepth * MAX_LINE, length);
    undoLengths[undoDepth] = length;
    undoCursors[undoDepth] = cursor;
    undoDepth++;
  }

  private int ringSlot(int index) {
    return ringCount - 1 - index;
  }

  private int undoSlot(int level) {
    return undoDepth - 1 - level;
  }

  private int killLength(int index) {
    int slot = ringSlot(index);
    return ringLengths[slot];
  }

  private static void dropOldest(int[] texts, int[] lengths, int count) {
    copyCells(texts, MAX_LINE, texts, 0, (count - 1) * MAX_LINE);
    copyCells(lengths, 1, lengths, 0, count - 1);
  }

  private static int slotChar(int[] texts, int[] lengths, int slot, int pos) {
    return isWithin(pos, lengths[slot]) ? texts[slot * MAX_LINE + pos] : NONE;
  }

  // ---- the picture ----

  private void refresh() {
    displayLength = 0;
    if (mode == MODE_SEARCH) {
      composeSearch();
    } else {
      composeEdit();
    }
    drawScreen();
  }

  private void composeEdit() {
    showChar('>');
    showChar(SPACE);
    displayCursor = displayLength + cursor;
    showText(buffer, 0, length);
  }

  private void composeSearch() {
    showChar('?');
    showText(query, 0, queryLength);
    showChar(':');
    showChar(SPACE);
    if (match >= 0) {
      displayCursor = displayLength + matchStart;
      showText(history, match * MAX_LINE, historyLengths[match]);
    } else {
      displayCursor = displayLength + cursor;
      showText(buffer, 0, length);
    }
  }

  private void showChar(int code) {
    display[displayLength] = code;
    displayLength++;
  }

  private void showText(int[] text, int start, int count) {
    copyCells(text, start, display, displayLength, count);
    displayLength += count;
  }

  private void drawScreen() {
    int cells = SCREEN_ROWS * width;
    for (int i = 0; i < cells; i++) {
      screen[i] = i < displayLength ? display[i] : SPACE;
    }
    terminalRow = displayCursor / width;
    terminalCol = displayCursor % width;
  }

  // ---- small helpers ----

  private static int clamp(int value, int least, int greatest) {
    if (value < least) {
      return least;
    }
    return value > greatest ? greatest : value;
  }

  private static boolean isWithin(int index, int count) {
    return index >= 0 && index < count;
  }

  private static boolean isPrintable(int code) {
    return code >= FIRST_PRINTABLE && code <= LAST_PRINTABLE;
  }

  private static boolean isWordChar(int code) {
    return (code >= '0' && code <= '9')
        || (code >= 'A' && code <= 'Z')
        || (code >= 'a' && code <= 'z');
  }

  // Goes upward, so a text may be copied onto itself towards the front.
  private static void copyCells(int[] from, int fromAt, int[] to, int toAt, int count) {
    for (int i = 0; i < count; i++) {
      to[toAt + i] = from[fromAt + i];
    }
  }
}
