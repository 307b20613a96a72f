import java.lang.reflect.Constructor;
import java.lang.reflect.Field;
import java.lang.reflect.Method;
import java.lang.reflect.Modifier;
import java.util.Arrays;
import java.util.Map;
import java.util.TreeMap;
import java.util.TreeSet;

// The public face of the document: every constant, the constructor and every method, and no more.
public final class FaceTest {
  private static final String CONSTANTS =
      "REFUSED=0 OK=1 MODE_EDIT=0 MODE_SEARCH=1 LAST_OTHER=0 LAST_INSERT=1 LAST_KILL=2 LAST_YANK=3 "
      + "MAX_LINE=32 MAX_QUERY=16 UNDO_CAP=8 SCREEN_ROWS=16 KEY_HOME=1 KEY_LEFT=2 KEY_DELETE=4 KEY_END=5 "
      + "KEY_RIGHT=6 KEY_CANCEL=7 KEY_BACKSPACE=8 KEY_KILL_END=11 KEY_ENTER=13 KEY_HIST_NEXT=14 "
      + "KEY_HIST_PREV=16 KEY_SEARCH=18 KEY_KILL_START=21 KEY_KILL_WORD_BACK=23 KEY_YANK=25 KEY_UNDO=31 "
      + "KEY_WORD_LEFT=200 KEY_WORD_RIGHT=201 KEY_KILL_WORD_FWD=202 KEY_YANK_POP=203 INFO_MODE=0 "
      + "INFO_LENGTH=1 INFO_CURSOR=2 INFO_NAV=3 INFO_HISTORY_COUNT=4 INFO_KILL_COUNT=5 INFO_UNDO_DEPTH=6 "
      + "INFO_LAST=7 INFO_YANK_INDEX=8 INFO_MATCH=9 INFO_QUERY_LENGTH=10 INFO_ACCEPTED=11 "
      + "INFO_DISPLAY_LENGTH=12 INFO_DISPLAY_CURSOR=13 INFO_WIDTH=14 INFO_DRAFT_LENGTH=15";

  private static final String METHODS =
      "key/1 info/1 bufferChar/1 draftChar/1 historyChar/2 killChar/2 undoChar/2 undoCursor/1 "
      + "displayChar/1 screenChar/2 screenCursorRow/0 screenCursorCol/0";

  public static void main(String[] args) throws IllegalAccessException {
    Class<?> face = ReadlineEditor.class;
    Expect.same("modifiers", Modifier.toString(face.getModifiers()), "public final");
    Expect.same("nested classes", face.getDeclaredClasses().length, 0);
    constants(face);
    instanceFields(face);
    constructors(face);
    methods(face);
    Expect.finish();
  }

  private static void constants(Class<?> face) throws IllegalAccessException {
    Map<String, Integer> due = new TreeMap<>();
    for (String constant : CONSTANTS.split(" ")) {
      String[] parts = constant.split("=");
      due.put(parts[0], Integer.valueOf(parts[1]));
    }
    Map<String, Integer> found = new TreeMap<>();
    for (Field field : face.getDeclaredFields()) {
      if (!Modifier.isPrivate(field.getModifiers())) {
        Expect.same(field.getName(), Modifier.toString(field.getModifiers()), "public static final");
        Expect.same(field.getName(), field.getType().getName(), "int");
        found.put(field.getName(), field.getInt(null));
      }
    }
    Expect.same("constants", found.toString(), due.toString());
  }

  private static void instanceFields(Class<?> face) {
    int count = 0;
    for (Field field : face.getDeclaredFields()) {
      Class<?> type = field.getType();
      if (Modifier.isStatic(field.getModifiers())) {
        Expect.same(field.getName() + " is a final number",
            Modifier.isFinal(field.getModifiers()) && (type == int.class || type == long.class) ? 1 : 0, 1);
      } else {
        count++;
        Class<?> cell = type.isArray() ? type.getComponentType() : type;
        Expect.same(field.getName() + " is of a plain type", cell.isPrimitive() ? 1 : 0, 1);
      }
    }
    Expect.same("at most forty fields, and there are " + count, count <= 40 ? 1 : 0, 1);
  }

  private static void constructors(Class<?> face) {
    Constructor<?>[] all = face.getDeclaredConstructors();
    Expect.same("constructors", all.length, 1);
    Expect.same("the constructor", Modifier.toString(all[0].getModifiers()), "public");
    Expect.same("its parameters", Arrays.toString(all[0].getParameterTypes()), "[int, int, int]");
  }

  private static void methods(Class<?> face) {
    TreeSet<String> due = new TreeSet<>(Arrays.asList(METHODS.split(" ")));
    TreeSet<String> open = new TreeSet<>();
    TreeSet<String> openNames = new TreeSet<>();
    for (Method method : face.getDeclaredMethods()) {
      if (!Modifier.isPrivate(method.getModifiers())) {
        Expect.same(method.getName(), Modifier.toString(method.getModifiers()), "public");
        Expect.same(method.getName(), method.getReturnType().getName(), "int");
        open.add(method.getName() + "/" + method.getParameterCount());
        openNames.add(method.getName());
      }
    }
    Expect.same("methods", open.toString(), due.toString());
    for (Method method : face.getDeclaredMethods()) {
      boolean hidden = Modifier.isPrivate(method.getModifiers());
      if (hidden && openNames.contains(method.getName())) {
        Expect.tell("the private " + method.getName() + " bears the name of a public one");
      }
    }
  }
}
