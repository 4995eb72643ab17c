import java.lang.reflect.Field;
import java.lang.reflect.Method;
import java.lang.reflect.Modifier;
import java.util.Set;
import java.util.TreeSet;

/** The face of the class is that of the document, and nothing more (rules 1, 2 and 5 of ../shared/LANGUAGE.md). */
public final class FaceTest {
  private static final Set<String> METHODS = Set.of("addEnd(int)", "book(int,int,int)", "bookAll()", "takeBack(int)",
      "stay(int,int)", "merge(int,int,int)", "part(int,int)", "set(int,int)", "passDay()", "type(char)", "clearText()",
      "undo()", "keep()", "restore()", "worker(int,int)", "bus(int,int,int)", "taken(int,int,int)", "why(int,int,int)",
      "spares(int,int,int)", "byMinute(int)", "count(int)");
  private static final Set<String> CONSTANTS = Set.of("UNKNOWN", "BAD_VALUE", "FULL", "NOT_POSSIBLE", "NONE");

  private static String signature(Method method) {
    StringBuilder told = new StringBuilder(method.getName()).append('(');
    for (Class<?> type : method.getParameterTypes()) {
      told.append(told.charAt(told.length() - 1) == '(' ? "" : ",").append(type.getName());
    }
    return told.append(')').toString();
  }

  private static void methods() {
    Set<String> open = new TreeSet<>();
    Set<String> names = new TreeSet<>();
    for (Method method : ShiftBuses.class.getDeclaredMethods()) {
      if (Modifier.isPublic(method.getModifiers())) {
        open.add(signature(method));
        names.add(method.getName());
        Due.holds(method + " answers an int", method.getReturnType() == int.class);
        Due.holds(method + " is not static", !Modifier.isStatic(method.getModifiers()));
      }
    }
    Due.holds("the public methods are " + open, open.equals(METHODS));
    hidesNoName(ShiftBuses.class, names);
    for (Class<?> inside : ShiftBuses.class.getDeclaredClasses()) {
      hidesNoName(inside, names);
    }
  }

  private static void hidesNoName(Class<?> type, Set<String> publicNames) {
    for (Method method : type.getDeclaredMethods()) {
      boolean isOfFace = type == ShiftBuses.class && Modifier.isPublic(method.getModifiers());
      Due.holds(method + " is private or of a class inside",
          isOfFace || type != ShiftBuses.class || Modifier.isPrivate(method.getModifiers()));
      Due.holds(method + " bears no public name", isOfFace || !publicNames.contains(method.getName()));
    }
  }

  private static void fields() {
    Set<String> open = new TreeSet<>();
    for (Field field : ShiftBuses.class.getDeclaredFields()) {
      if (Modifier.isPublic(field.getModifiers())) {
        open.add(field.getName());
      } else {
        Due.holds(field + " is private", Modifier.isPrivate(field.getModifiers()));
      }
      Due.holds(field + " is final if it is static", !Modifier.isStatic(field.getModifiers())
          || Modifier.isFinal(field.getModifiers()));
    }
    Due.holds("the public constants are " + open, open.equals(CONSTANTS));
  }

  private static void classes() {
    Due.holds("the class is public", Modifier.isPublic(ShiftBuses.class.getModifiers()));
    Due.holds("the class is final", Modifier.isFinal(ShiftBuses.class.getModifiers()));
    Due.due("constructors", ShiftBuses.class.getDeclaredConstructors().length, 1);
    Due.due("public constructors", ShiftBuses.class.getConstructors().length, 1);
    Due.holds("at most twelve classes", ShiftBuses.class.getDeclaredClasses().length < 12);
    for (Class<?> inside : ShiftBuses.class.getDeclaredClasses()) {
      int modifiers = inside.getModifiers();
      Due.holds(inside + " is static", Modifier.isStatic(modifiers));
      Due.holds(inside + " is not public", !Modifier.isPublic(modifiers) && !Modifier.isProtected(modifiers));
      int own = 0;
      for (Field field : inside.getDeclaredFields()) {
        Due.holds(field + " is final if it is static", !Modifier.isStatic(field.getModifiers())
            || Modifier.isFinal(field.getModifiers()));
        own += Modifier.isStatic(field.getModifiers()) ? 0 : 1;
      }
      Due.holds(inside + " has at most twenty fields", own <= 20);
    }
  }

  public static void main(String[] args) {
    methods();
    fields();
    classes();
    Due.finish();
  }
}
