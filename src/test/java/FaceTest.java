import java.io.IOException;
import java.lang.reflect.Field;
import java.lang.reflect.Method;
import java.lang.reflect.Modifier;
import java.nio.file.Files;
import java.nio.file.Path;
import java.util.Set;
import java.util.TreeSet;

/** The face of the class is that of the document, and nothing more (rules 1, 2 and 5 of ../shared/LANGUAGE.md). */
public final class FaceTest {
  private static final Set<String> METHODS = Set.of("addEnd(int)", "book(int,int,int)", "bookAll()", "takeBack(int)",
      "stay(int,int)", "merge(int,int,int)", "part(int,int)", "set(int,int)", "passDay()", "type(char)", "clearText()",
      "undo()", "keep()", "restore()", "worker(int,int)", "bus(int,int,int)", "taken(int,int,int)", "why(int,int,int)",
      "spares(int,int,int)", "byMinute(int)", "count(int)");
  private static String program = "";
  private static final Set<String> CONSTANTS = Set.of("UNKNOWN", "BAD_VALUE", "FULL", "NOT_POSSIBLE", "NONE");

  private static String signature(Method method) {
    StringBuilder told = new StringBuilder(method.getName()).append('(');
    for (Class<?> type : method.getParameterTypes()) {
      told.append(told.charAt(told.length() - 1) == '(' ? "" : ",").append(type.getName());
    }
    return told.append(')').toString();
  }

  private static void methods() {
    Set<String> open = new TreeSet<>();
    Set<String> names = new TreeSet<>();
    for (Method method : ShiftBuses.class.getDeclaredMethods()) {
      if (Modifier.isPublic(method.getModifiers())) {
        open.add(signature(method));
        names.add(method.getName());
        Due.holds(method + " answers an int", method.getReturnType() == int.class);
        Due.holds(method + " is not static", !Modifier.isStatic(method.getModifiers()));
      }
    }
    Due.holds("the public methods are " + open, open.equals(METHODS));
    hidesNoName(ShiftBuses.class, names);
    for (Class<?> inside : ShiftBuses.class.getDeclaredClasses()) {
      hidesNoName(inside, names);
    }
  }

  private static void hidesNoName(Class<?> type, Set<String> publicNames) {
    for (Method method : type.getDeclaredMethods()) {
      boolean isOfFace = type == ShiftBuses.class && Modifier.isPublic(method.getModifiers());
      Due.holds(method + " is private or of a class inside",
          isOfFace || type != ShiftBuses.class || Modifier.isPrivate(method.getModifiers()));
      Due.holds(method + " bears no public name", isOfFace || !publicNames.contains(method.getName()));
    }
  }

  private static void fields() {
    Set<String> open = new TreeSet<>();
    for (Field field : ShiftBuses.class.getDeclaredFields()) {
      if (Modifier.isPublic(field.getModifiers())) {
        open.add(field.getName());
      } else {
        Due.holds(field + " is private", Modifier.isPrivate(field.getModifiers()));
      }
      Due.holds(field + " is final if it is static", !Modifier.isStatic(field.getModifiers())
          || Modifier.isFinal(field.getModifiers()));
    }
    Due.holds("the public constants are " + open, open.equals(CONSTANTS));
  }

  private static void classes() {
    Due.holds("the class is public", Modifier.isPublic(ShiftBuses.class.getModifiers()));
    Due.holds("the class is final", Modifier.isFinal(ShiftBuses.class.getModifiers()));
    Due.due("constructors", ShiftBuses.class.getDeclaredConstructors().length, 1);
    Due.due("public constructors", ShiftBuses.class.getConstructors().length, 1);
    Due.holds("at most twelve classes", ShiftBuses.class.getDeclaredClasses().length < 12);
    for (Class<?> inside : ShiftBuses.class.getDeclaredClasses()) {
      int modifiers = inside.getModifiers();
      Due.holds(inside + " is static", Modifier.isStatic(modifiers));
      Due.holds(inside + " is not public", !Modifier.isPublic(modifiers) && !Modifier.isProtected(modifiers));
      int own = 0;
      for (Field field : inside.getDeclaredFields()) {
        Due.holds(field + " is final if it is static", !Modifier.isStatic(field.getModifiers())
            || Modifier.isFinal(field.getModifiers()));
        own += Modifier.isStatic(field.getModifiers()) ? 0 : 1;
      }
      Due.holds(inside + " has at most twenty fields", own <= 20);
    }
  }

  // -- what the document shows, line by line

  private static final String[] HEADS = {"public int addEnd(int minute);", "public int book(int end, int line, int stop);",
      "public int bookAll();", "public int takeBack(int worker);", "public int stay(int worker, int end);",
      "public int merge(int line, int end, int other);", "public int part(int line, int end);",
      "public int set(int which, int value);", "public int passDay();", "public int type(char character);",
      "public int clearText();", "public int undo();", "public int keep();", "public int restore();",
      "public int worker(int worker, int what);", "public int bus(int line, int end, int what);",
      "public int taken(int line, int end, int stop);", "public int why(int line, int end, int stop);",
      "public int spares(int line, int end, int other);", "public int byMinute(int rank);", "public int count(int what);"};

  private static void constant(String name, int value, int want) {
    String line = "public static final int " + name + " = " + want + ";";
    Due.sentence(line);
    Due.due(name, value, want);
    Due.holds("the class says it", occursOnce(line));
  }

  private static void linesOfTheFace() {
    Due.sentence("public final class ShiftBuses {");
    Due.holds("the class says it", occursOnce("public final class ShiftBuses {"));
    constant("UNKNOWN", ShiftBuses.UNKNOWN, -1);
    constant("BAD_VALUE", ShiftBuses.BAD_VALUE, -2);
    constant("FULL", ShiftBuses.FULL, -3);
    constant("NOT_POSSIBLE", ShiftBuses.NOT_POSSIBLE, -4);
    constant("NONE", ShiftBuses.NONE, -5);
    Due.sentence("public ShiftBuses();");
    Due.holds("the class says it", occursOnce("public ShiftBuses() {"));
    for (String head : HEADS) {
      Due.sentence(head);
      Due.holds("the class says it", occursOnce(head.replace(";", " {")));
    }
    Due.due("as many methods as are shown", HEADS.length, METHODS.size());
  }

  private static boolean occursOnce(String line) {
    int at = program.indexOf(line);
    return at >= 0 && program.indexOf(line, at + 1) < 0;
  }

  /** The calls stand below this line and above the next one, in this order. */
  private static void below(String words, String title, String... calls) {
    Due.sentence(words);
    Due.holds("the class says it", occursOnce(title + '\n'));
    int from = program.indexOf(title);
    int to = program.indexOf("// ----", from + title.length());
    int last = from;
    for (String call : calls) {
      int at = program.indexOf("  public int " + call + "(");
      Due.holds(call + " is below " + title, at > last && at < to);
      last = at;
    }
    int others = 0;
    for (int at = program.indexOf("  public ", from); at >= 0 && at < to; at = program.indexOf("  public ", at + 1)) {
      others++;
    }
    Due.due("no other call is below " + title, others, calls.length);
  }

  private static void whatStandsAheadOfTheCalls() {
    below("Ahead of the calls `addEnd`, `book`, `bookAll`, `takeBack`, `stay` the interface says: ---- shift ends, bookings.",
        "// ---- shift ends, bookings", "addEnd", "book", "bookAll", "takeBack", "stay");
    below("Ahead of the calls `merge`, `part`, `set`, `passDay` the interface says: ---- buses.", "// ---- buses", "merge",
        "part", "set", "passDay");
    below("Ahead of the calls `type`, `clearText` the interface says: ---- texts.", "// ---- texts", "type", "clearText");
    below("Ahead of the calls `undo`, `keep`, `restore` the interface says: ---- history.", "// ---- history", "undo", "keep",
        "restore");
    below("Ahead of the calls `worker`, `bus`, `taken`, `why`, `spares`, `byMinute`, `count` the interface says: ---- what is"
        + " told.", "// ---- what is told", "worker", "bus", "taken", "why", "spares", "byMinute", "count");
  }

  public static void main(String[] args) throws IOException {
    program = Files.readString(Path.of("src/main/java/ShiftBuses.java"));
    methods();
    fields();
    classes();
    linesOfTheFace();
    whatStandsAheadOfTheCalls();
    Due.finish();
  }
}
