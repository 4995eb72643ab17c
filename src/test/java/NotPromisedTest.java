import java.lang.reflect.Field;
import java.lang.reflect.Method;
import java.lang.reflect.Modifier;

/** "Not promised": what is free rules nothing, but neither the tests nor a caller may come to need it. */
public final class NotPromisedTest {
  private static final int MANY_CALLS = 20_000;

  private static void stateIsHidden() {
    Due.sentence("How the state is held inside the object is free, as are the speed of each call, the text of toString and the"
        + " behaviour of equals and hashCode.");
    for (Field field : ShiftBuses.class.getDeclaredFields()) {
      Due.holds(field + " is a constant or private", Modifier.isStatic(field.getModifiers())
          || Modifier.isPrivate(field.getModifiers()));
    }
    for (Class<?> inside : ShiftBuses.class.getDeclaredClasses()) {
      Due.holds(inside + " is private", Modifier.isPrivate(inside.getModifiers()));
    }
    for (Method method : ShiftBuses.class.getDeclaredMethods()) {
      String name = method.getName();
      Due.holds(name + " is not given anew",
          !name.equals("toString") && !name.equals("equals") && !name.equals("hashCode"));
    }
  }

  private static void oneObjectOneThread() {
    Due.sentence("Use of one object from several threads at once is not promised to be safe.");
    for (Method method : ShiftBuses.class.getDeclaredMethods()) {
      Due.holds(method + " does not wait for others", !Modifier.isSynchronized(method.getModifiers()));
    }
    // Objects share nothing, so that each thread may have an object of its own.
    CountedBuses x = Due.worksWithEnds(600);
    CountedBuses y = Due.worksWithEnds(700, 800);
    x.book(0, 0, 3);
    Due.typeText(x, "0a1");
    x.keep();
    y.set(1, 1);
    Due.due("shift ends of one", x.count(0), 1);
    Due.due("shift ends of the other one", y.count(0), 2);
    Due.due("workers of the other one", y.count(1), 0);
    Due.due("text of the other one", y.count(17), 0);
    Due.due("snapshot of the other one", y.restore(), -5);
    Due.due("seats of one", x.count(12), 6);
    Due.due("states of one", x.count(16), 2);
    Due.due("states of the other one", y.count(16), 3);
  }

  /** The tests can't come to need what is free: they are stopped. */
  private static void testsEndAtTheLastCall() {
    Due.sentence("Nothing is promised beyond the answers and state changes described above, and nothing about an object after its"
        + " 512th call.");
    CountedBuses x = new CountedBuses();
    for (int call = 1; call <= 512; call++) {
      Due.due("call " + call, x.count(0), 0);
    }
    boolean isStopped = false;
    try {
      x.count(0);
    } catch (IllegalStateException stopped) {
      isStopped = true;
    }
    Due.holds("a test is stopped at the 513th call", isStopped);
  }

  /** What later calls answer is free, but each of them ends and none throws (rule 7 of ../shared/LANGUAGE.md). */
  private static void laterCallsEnd() {
    Due.sentence("An object is used for at most 512 calls after it has been made; what later calls answer is free.");
    ShiftBuses x = new ShiftBuses();
    for (int call = 0; call < MANY_CALLS; call++) {
      x.addEnd(600 + call % 7);
      x.book(call % 12, call % 3, call % 11);
      x.type((char) ('0' + call % 60));
      x.bookAll();
      x.merge(call % 3, call % 5, call % 7);
      x.stay(call % 64, call % 4);
      x.passDay();
      x.keep();
      x.takeBack(call / 8);
      x.part(call % 2, call % 9);
      x.set(call % 5, call % 301);
      x.restore();
      x.undo();
    }
    Due.holds("all calls have ended", true);
  }

  public static void main(String[] args) {
    stateIsHidden();
    oneObjectOneThread();
    testsEndAtTheLastCall();
    laterCallsEnd();
    Due.finish();
  }
}
