import java.util.ArrayList;
import java.util.List;
import java.util.Random;
import java.util.function.Consumer;
import java.util.function.ToIntFunction;

/** ERRORS: each error in the order of its @return line where several apply, and that none of them changes anything. */
public final class EdgesOfErrorsTest {
  private static final int UNKNOWN = -1;
  private static final int BAD_VALUE = -2;
  private static final int FULL = -3;
  private static final int NOT_POSSIBLE = -4;
  private static final int NONE = -5;

  private record Call(String name, int due, ToIntFunction<CountedBuses> made) {
  }

  private static final class Calls {
    private final List<Call> list = new ArrayList<>();

    void add(String name, int due, ToIntFunction<CountedBuses> made) {
      list.add(new Call(name, due, made));
    }
  }

  /** Asks each call of the works, where all of them are due to be errors, NONE or what merely tells. */
  private static void askEach(Calls calls, CountedBuses x) {
    for (Call call : calls.list) {
      Due.due(call.name(), call.made().applyAsInt(x), call.due());
    }
  }

  private static void dueAndChangeNothing(String where, Consumer<CountedBuses> works, Calls calls) {
    Due.sentence("Where several errors can apply, the order of the @return line is the order of the checks.");
    CountedBuses x = new CountedBuses();
    works.accept(x);
    askEach(calls, x);
    Due.sentence("A call that returns an error or NONE changes nothing.");
    Due.changesNothing("all errors " + where, works, y -> askEach(calls, y));
    for (Call call : calls.list) {
      Due.changesNothing(call.name() + " " + where, works, y -> call.made().applyAsInt(y));
    }
  }

  // -- full works: ten shift ends, thirty workers

  private static void fullWorks(CountedBuses x) {
    for (int end = 0; end < 10; end++) {
      x.addEnd(600 + 10 * end);
    }
    for (int w = 0; w < 30; w++) {
      x.book(w % 10, 0, 1 + w % 9);
    }
    x.keep();
    x.merge(0, 8, 9);
    x.type('0');
    x.type('a');
    x.type('1');
  }

  private static void whenAllIsFull() {
    Calls calls = new Calls();
    calls.add("addEnd of a bad minute, and full", BAD_VALUE, x -> x.addEnd(1440));
    calls.add("addEnd of a bad minute, and full", BAD_VALUE, x -> x.addEnd(-1));
    calls.add("addEnd, full", FULL, x -> x.addEnd(0));
    calls.add("book of no shift end, and full", UNKNOWN, x -> x.book(10, 0, 1));
    calls.add("book of no line, and full", UNKNOWN, x -> x.book(0, 2, 1));
    calls.add("book of no stop, and full", UNKNOWN, x -> x.book(0, 0, 10));
    calls.add("book, full", FULL, x -> x.book(0, 0, 1));
    calls.add("bookAll, full", FULL, CountedBuses::bookAll);
    dueAndChangeNothing("in full works", EdgesOfErrorsTest::fullWorks, calls);
  }

  // -- texts with several errors

  private static void typed(CountedBuses x, int ends, int workers, String text) {
    for (int end = 0; end < ends; end++) {
      x.addEnd(600);
    }
    for (int w = 0; w < workers; w++) {
      x.book(0, 1, 1);
    }
    for (int i = 0; i < text.length(); i++) {
      x.type(text.charAt(i));
    }
  }

  private static void bookAllOf(int ends, int workers, String text, int due) {
    Calls calls = new Calls();
    calls.add("bookAll of " + text, due, CountedBuses::bookAll);
    dueAndChangeNothing("with " + ends + " ends and " + workers + " workers", x -> typed(x, ends, workers, text), calls);
  }

  private static void errorsOfTexts() {
    Due.sentence("-100 minus the fault of the text if it has one (which is an error); UNKNOWN if a shift end is not there; FULL if"
        + " more than 30 would have bookings.");
    bookAllOf(1, 30, "1a1,", -104);
    bookAllOf(1, 30, "0a1,", -104);
    bookAllOf(1, 30, "1a1", UNKNOWN);
    bookAllOf(1, 30, "0a1,1a1", UNKNOWN);
    bookAllOf(1, 30, "0a1", FULL);
    bookAllOf(1, 29, "0a12", FULL);
    bookAllOf(1, 29, "0a1,0b2", FULL);
    bookAllOf(1, 0, "1a1,", -104);
    bookAllOf(1, 0, "1a1", UNKNOWN);
    bookAllOf(1, 0, "0a1,1a1", UNKNOWN);
    bookAllOf(0, 0, "0a1", UNKNOWN);
    bookAllOf(0, 0, "0a111111111122222222223333333333444444444455555555556666666", UNKNOWN);
    bookAllOf(0, 0, "0a1111111111222222222233333333334444444444555555555566666660", -159);
    bookAllOf(1, 0, "0a111111111122222222223333333333444444444455555555556666666", FULL);
    bookAllOf(0, 0, "", -100);
    bookAllOf(1, 30, "", -100);
    bookAllOf(1, 30, "x", -100);
  }

  private static void fullText() {
    Calls calls = new Calls();
    calls.add("type behind a full text", FULL, x -> x.type('1'));
    calls.add("bookAll of a full text", -160, CountedBuses::bookAll);
    String text = "0a1,".repeat(15);
    dueAndChangeNothing("with a full text", x -> typed(x, 3, 3, text), calls);
  }

  // -- works with some of everything

  private static void someWorks(CountedBuses x) {
    x.addEnd(600);
    x.addEnd(620);
    x.addEnd(700);
    x.book(0, 0, 3);
    x.keep();
    x.book(0, 0, 5);
    x.book(1, 0, 9);
    x.takeBack(1);
    x.merge(0, 0, 1);
    x.set(1, 2);
    x.type('0');
    x.type('b');
  }

  private static Calls errorsOfBookings() {
    Calls calls = new Calls();
    calls.add("addEnd", BAD_VALUE, x -> x.addEnd(1440));
    calls.add("book of no shift end", UNKNOWN, x -> x.book(3, 0, 1));
    calls.add("book of no line", UNKNOWN, x -> x.book(0, 2, 1));
    calls.add("book of no stop", UNKNOWN, x -> x.book(0, 0, 0));
    calls.add("book of nothing that there is", UNKNOWN, x -> x.book(-1, -1, -1));
    calls.add("bookAll of a text that ends too early", -102, CountedBuses::bookAll);
    calls.add("takeBack of a worker who was taken back", UNKNOWN, x -> x.takeBack(1));
    calls.add("takeBack of no worker", UNKNOWN, x -> x.takeBack(3));
    calls.add("takeBack of no worker", UNKNOWN, x -> x.takeBack(-1));
    calls.add("stay of no worker", UNKNOWN, x -> x.stay(3, 1));
    calls.add("stay of a worker who was taken back, where it is so already", UNKNOWN, x -> x.stay(1, 0));
    calls.add("stay to no shift end", UNKNOWN, x -> x.stay(0, 3));
    calls.add("stay to no shift end", UNKNOWN, x -> x.stay(0, -1));
    calls.add("stay of no worker to no shift end", UNKNOWN, x -> x.stay(9, 9));
    calls.add("stay where it is so already", NONE, x -> x.stay(0, 0));
    calls.add("stay where it is so already", NONE, x -> x.stay(2, 1));
    return calls;
  }

  private static Calls errorsOfBuses() {
    Calls calls = new Calls();
    calls.add("merge of no line, both the same", UNKNOWN, x -> x.merge(2, 0, 0));
    calls.add("merge of no shift end, both the same", UNKNOWN, x -> x.merge(0, 3, 3));
    calls.add("merge of no line, not possible", UNKNOWN, x -> x.merge(-1, 0, 2));
    calls.add("merge of no shift end with one that is merged", UNKNOWN, x -> x.merge(0, 0, 3));
    calls.add("merge of no shift end with one that is merged", UNKNOWN, x -> x.merge(0, 3, 0));
    calls.add("merge of both the same, merged already", BAD_VALUE, x -> x.merge(0, 0, 0));
    calls.add("merge of both the same", BAD_VALUE, x -> x.merge(1, 2, 2));
    calls.add("merge of those that are merged already", NOT_POSSIBLE, x -> x.merge(0, 1, 0));
    calls.add("merge of one that is merged already", NOT_POSSIBLE, x -> x.merge(0, 2, 1));
    calls.add("merge of two that are too far apart", NOT_POSSIBLE, x -> x.merge(1, 1, 2));
    calls.add("part of no line", UNKNOWN, x -> x.part(2, 0));
    calls.add("part of no shift end", UNKNOWN, x -> x.part(0, 3));
    calls.add("part of no line, not merged", UNKNOWN, x -> x.part(-1, 2));
    calls.add("part of one that is not merged", NONE, x -> x.part(0, 2));
    calls.add("part on the line that is not merged", NONE, x -> x.part(1, 0));
    calls.add("set of no setting", BAD_VALUE, x -> x.set(4, 10));
    calls.add("set of no setting", BAD_VALUE, x -> x.set(-1, 10));
    calls.add("set of a value out of range", BAD_VALUE, x -> x.set(0, 21));
    calls.add("set of 0 to what it is already", NONE, x -> x.set(0, 5));
    calls.add("set of 1 to what it is already", NONE, x -> x.set(1, 2));
    calls.add("set of 2 to what it is already", NONE, x -> x.set(2, 30));
    calls.add("set of 3 to what it is already", NONE, x -> x.set(3, 90));
    return calls;
  }

  private static Calls errorsOfWhatIsTold() {
    Calls calls = new Calls();
    calls.add("worker of no worker, bad what", UNKNOWN, x -> x.worker(1, 9));
    calls.add("worker of no worker", UNKNOWN, x -> x.worker(3, 0));
    calls.add("worker, bad what", BAD_VALUE, x -> x.worker(0, 9));
    calls.add("worker, bad what", BAD_VALUE, x -> x.worker(0, -1));
    calls.add("bus of no line, bad what", UNKNOWN, x -> x.bus(2, 0, 6));
    calls.add("bus of no shift end, bad what", UNKNOWN, x -> x.bus(0, 3, 6));
    calls.add("bus, bad what", BAD_VALUE, x -> x.bus(0, 0, 6));
    calls.add("bus, bad what", BAD_VALUE, x -> x.bus(0, 0, -1));
    calls.add("bus without another one", NONE, x -> x.bus(0, 2, 1));
    calls.add("taken of no line", UNKNOWN, x -> x.taken(2, 0, 1));
    calls.add("taken of no shift end", UNKNOWN, x -> x.taken(0, 3, 1));
    calls.add("taken of no stop", UNKNOWN, x -> x.taken(0, 0, 10));
    calls.add("why of no line, and no shift end", UNKNOWN, x -> x.why(2, 3, 1));
    calls.add("why of no stop, and no shift end", UNKNOWN, x -> x.why(0, 3, 0));
    calls.add("why of no shift end", 1, x -> x.why(0, 3, 1));
    calls.add("spares of no line, both the same", UNKNOWN, x -> x.spares(2, 0, 0));
    calls.add("spares of no shift end, both the same", UNKNOWN, x -> x.spares(0, 3, 3));
    calls.add("spares of no shift end with one that is merged", UNKNOWN, x -> x.spares(0, 0, 3));
    calls.add("spares of no shift end with one that is merged", UNKNOWN, x -> x.spares(0, 3, 0));
    calls.add("spares of both the same, merged already", BAD_VALUE, x -> x.spares(0, 1, 1));
    calls.add("spares of those that are merged already", NOT_POSSIBLE, x -> x.spares(0, 0, 1));
    calls.add("spares of one that is merged already", NOT_POSSIBLE, x -> x.spares(0, 1, 2));
    calls.add("spares of two that are too far apart", NOT_POSSIBLE, x -> x.spares(1, 0, 2));
    calls.add("byMinute of a negative rank", BAD_VALUE, x -> x.byMinute(-1));
    calls.add("byMinute of too high a rank", NONE, x -> x.byMinute(3));
    calls.add("count, bad what", BAD_VALUE, x -> x.count(18));
    calls.add("count, bad what", BAD_VALUE, x -> x.count(-1));
    return calls;
  }

  private static void whatIsToldChangesNothing() {
    Due.sentence("Nothing is promised beyond the answers and state changes described above");
    Calls calls = new Calls();
    for (int what = 0; what <= 8; what++) {
      int asked = what;
      calls.add("worker(2, " + what + ")", new int[] {1, 0, 9, 1, 45, 0, 0, 0, 0}[what], x -> x.worker(2, asked));
    }
    for (int what = 0; what <= 5; what++) {
      int asked = what;
      calls.add("bus(0, 0, " + what + ")", new int[] {620, 1, 2, 0, 9, 38}[what], x -> x.bus(0, 0, asked));
    }
    for (int what = 0; what <= 17; what++) {
      int asked = what;
      int[] due = {3, 2, 2, 0, 1, 0, 0, 0, 0, 0, 0, 5, 2, 30, 90, 3, 4, 2};
      calls.add("count(" + what + ")", due[what], x -> x.count(asked));
    }
    calls.add("taken", 1, x -> x.taken(0, 1, 4));
    calls.add("why", 2, x -> x.why(0, 1, 4));
    calls.add("why", 0, x -> x.why(1, 1, 4));
    calls.add("spares", 0, x -> x.spares(1, 0, 1));
    calls.add("byMinute", 2, x -> x.byMinute(2));
    CountedBuses asked = new CountedBuses();
    someWorks(asked);
    askEach(calls, asked);
    Due.changesNothing("all that is told", EdgesOfErrorsTest::someWorks, x -> askEach(calls, x));
  }

  private static void ofNewWorks() {
    Calls calls = new Calls();
    calls.add("undo", NONE, CountedBuses::undo);
    calls.add("restore", NONE, CountedBuses::restore);
    calls.add("bookAll", -100, CountedBuses::bookAll);
    calls.add("book", UNKNOWN, x -> x.book(0, 0, 1));
    calls.add("takeBack", UNKNOWN, x -> x.takeBack(0));
    calls.add("stay", UNKNOWN, x -> x.stay(0, 0));
    calls.add("merge", UNKNOWN, x -> x.merge(0, 0, 0));
    calls.add("part", UNKNOWN, x -> x.part(0, 0));
    calls.add("byMinute", NONE, x -> x.byMinute(0));
    dueAndChangeNothing("in new works", x -> { }, calls);
    Calls empty = new Calls();
    empty.add("undo", NONE, CountedBuses::undo);
    dueAndChangeNothing("after all was undone", x -> {
      x.addEnd(600);
      x.keep();
      x.addEnd(700);
      x.undo();
      x.undo();
    }, empty);
  }

  /** The error comes ahead of NONE, and of what would be done: full history, full text, snapshot and all. */
  private static void noneIsNoError() {
    Due.sentence("NONE is no error; it is returned only if no error applies.");
    CountedBuses x = Due.worksWithEnds(600);
    x.book(0, 0, 1);
    Due.due("part of no line", x.part(2, 0), UNKNOWN);
    Due.due("part that would be NONE", x.part(1, 0), NONE);
    Due.due("stay to no shift end", x.stay(0, 1), UNKNOWN);
    Due.due("stay that would be NONE", x.stay(0, 0), NONE);
    Due.due("set of a value out of range", x.set(0, 0), BAD_VALUE);
    Due.due("set that would be NONE", x.set(0, 5), NONE);
    Due.due("byMinute of a negative rank", x.byMinute(-1), BAD_VALUE);
    Due.due("byMinute that would be NONE", x.byMinute(1), NONE);
    Due.due("bus of no line", x.bus(2, 0, 1), UNKNOWN);
    Due.due("bus that would be NONE", x.bus(0, 0, 1), NONE);
  }

  // -- the constants

  private static void badValues() {
    Due.sentence("`BAD_VALUE = -2`: Another argument is out of range.");
    CountedBuses x = Due.worksWithEnds(600, 610);
    x.book(0, 0, 1);
    Due.due("addEnd", x.addEnd(1440), ShiftBuses.BAD_VALUE);
    Due.due("merge", x.merge(0, 1, 1), ShiftBuses.BAD_VALUE);
    Due.due("set of no setting", x.set(4, 10), ShiftBuses.BAD_VALUE);
    Due.due("set of no value", x.set(0, 21), ShiftBuses.BAD_VALUE);
    Due.due("worker", x.worker(0, 9), ShiftBuses.BAD_VALUE);
    Due.due("bus", x.bus(0, 0, 6), ShiftBuses.BAD_VALUE);
    Due.due("spares", x.spares(0, 1, 1), ShiftBuses.BAD_VALUE);
    Due.due("byMinute", x.byMinute(-1), ShiftBuses.BAD_VALUE);
    Due.due("count", x.count(18), ShiftBuses.BAD_VALUE);
  }

  private static void noMoreRoom() {
    Due.sentence("`FULL = -3`: There is no more room.");
    CountedBuses x = new CountedBuses();
    for (int end = 0; end < 10; end++) {
      Due.holds("room for the shift end " + end, x.addEnd(600) >= 0);
    }
    Due.due("addEnd", x.addEnd(600), ShiftBuses.FULL);
    for (int i = 0; i < 60; i++) {
      Due.holds("room for the character " + i, x.type("0a1,".charAt(i % 4)) >= 0);
    }
    Due.due("type", x.type('1'), ShiftBuses.FULL);
    x.clearText();
    Due.typeText(x, "0a1");
    for (int w = 0; w < 30; w++) {
      Due.holds("room for the worker " + w, (w % 2 == 0 ? x.book(0, 0, 1) : x.bookAll()) >= 0);
    }
    Due.due("book", x.book(0, 0, 1), ShiftBuses.FULL);
    Due.due("bookAll", x.bookAll(), ShiftBuses.FULL);
  }

  private static void notPossible() {
    Due.sentence("`NOT_POSSIBLE = -4`: This is not possible.");
    CountedBuses x = Due.worksWithEnds(600, 631, 620);
    Due.due("merge", x.merge(0, 0, 1), ShiftBuses.NOT_POSSIBLE);
    Due.due("spares", x.spares(0, 0, 1), ShiftBuses.NOT_POSSIBLE);
    Due.holds("this is", x.spares(0, 0, 2) >= 0);
    Due.holds("this is", x.merge(0, 0, 2) >= 0);
  }

  private static void noSuchThing() {
    Due.sentence("`NONE = -5`: There is no such thing; not an error.");
    CountedBuses x = new CountedBuses();
    Due.due("undo", x.undo(), ShiftBuses.NONE);
    Due.due("restore", x.restore(), ShiftBuses.NONE);
    Due.due("byMinute", x.byMinute(0), ShiftBuses.NONE);
    Due.due("set", x.set(0, 5), ShiftBuses.NONE);
    x.addEnd(600);
    x.book(0, 0, 1);
    Due.due("stay", x.stay(0, 0), ShiftBuses.NONE);
    Due.due("part", x.part(0, 0), ShiftBuses.NONE);
    Due.due("bus", x.bus(0, 0, 1), ShiftBuses.NONE);
  }

  /** Whatever is asked, what is below 0 is one of the constants that the call's @return line names. */
  private static void errorsAreTheConstants() {
    Due.sentence("Errors are reported by the constants below.");
    Random random = new Random(9);
    int[][] may = {{BAD_VALUE, FULL}, {UNKNOWN, FULL}, {UNKNOWN, FULL}, {UNKNOWN}, {UNKNOWN, NONE},
        {UNKNOWN, BAD_VALUE, NOT_POSSIBLE}, {UNKNOWN, NONE}, {BAD_VALUE, NONE}, {}, {FULL}, {}, {NONE}, {}, {NONE},
        {UNKNOWN, BAD_VALUE}, {UNKNOWN, BAD_VALUE, NONE}, {UNKNOWN}, {UNKNOWN}, {UNKNOWN, BAD_VALUE, NOT_POSSIBLE},
        {BAD_VALUE, NONE}, {BAD_VALUE}};
    int[] errors = new int[may.length];
    for (int run = 0; run < 200; run++) {
      CountedBuses x = new CountedBuses();
      while (x.calls() < CountedBuses.MOST_CALLS) {
        int any = random.nextInt(may.length);
        int call = any == 10 && run % 2 == 0 ? 9 : any; // some texts grow until they are full
        int answer = anyCall(x, call, random);
        boolean isFault = call == 2 && answer <= -100 && answer >= -160;
        boolean isNamed = answer >= 0 || isFault;
        for (int constant : may[call]) {
          isNamed |= answer == constant;
        }
        Due.holds("the answer " + answer + " of the call " + call + " is one of those that it names", isNamed);
        errors[call] += answer < 0 ? 1 : 0;
      }
    }
    for (int call = 0; call < may.length; call++) {
      Due.holds("there were errors of the call " + call, errors[call] > 0 || may[call].length == 0);
    }
  }

  private static int anyCall(CountedBuses x, int call, Random random) {
    int a = random.nextInt(6) - 1;
    int b = random.nextInt(4) - 1;
    int c = random.nextInt(12) - 1;
    switch (call) {
      case 0: return x.addEnd(590 + 10 * c + (b < 0 ? 2000 : 0));
      case 1: return x.book(a, b, c);
      case 2: return x.bookAll();
      case 3: return x.takeBack(c);
      case 4: return x.stay(c, a);
      case 5: return x.merge(b, a, c);
      case 6: return x.part(b, a);
      case 7: return x.set(a, 3 * c);
      case 8: return x.passDay();
      case 9: return x.type("0a1,".charAt(x.calls() % 4));
      case 10: return x.clearText();
      case 11: return x.undo();
      case 12: return x.keep();
      case 13: return x.restore();
      case 14: return x.worker(a, c);
      case 15: return x.bus(b, a, c);
      case 16: return x.taken(b, a, c);
      case 17: return x.why(b, a, c);
      case 18: return x.spares(b, a, c);
      case 19: return x.byMinute(c);
      default: return x.count(2 * c);
    }
  }

  public static void main(String[] args) {
    whenAllIsFull();
    errorsOfTexts();
    fullText();
    dueAndChangeNothing("of bookings", EdgesOfErrorsTest::someWorks, errorsOfBookings());
    dueAndChangeNothing("of buses", EdgesOfErrorsTest::someWorks, errorsOfBuses());
    dueAndChangeNothing("of what is told", EdgesOfErrorsTest::someWorks, errorsOfWhatIsTold());
    whatIsToldChangesNothing();
    ofNewWorks();
    noneIsNoError();
    badValues();
    noMoreRoom();
    notPossible();
    noSuchThing();
    errorsAreTheConstants();
    Due.finish();
  }
}
