/** Promise 2: addEnd. */
public final class Promise02AddEndTest {
  private static void addsAShiftEnd() {
    Due.promise(2, "`int addEnd(int minute)`: Adds a shift end.");
    CountedBuses x = Due.worksWithEnds(600);
    x.book(0, 1, 3);
    Due.due("addEnd", x.addEnd(500), 1);
    Due.due("shift ends", x.count(0), 2);
    for (int line = 0; line < 2; line++) {
      int[] due = {500, -5, 0, 0, 0, 0};
      for (int what = 0; what < due.length; what++) {
        Due.due("bus(" + line + ", 1, " + what + ")", x.bus(line, 1, what), due[what]);
      }
      Due.due("why", x.why(line, 1, 9), 0);
      Due.due("the bus that there was", x.bus(line, 0, 0), 600);
    }
    Due.due("the booking that there was", x.worker(0, 0), 0);
    Due.due("its promise", x.worker(0, 3), 1);
    Due.due("book at the new one", x.book(1, 0, 1), 1);
  }

  private static void isAnAct() {
    Due.promise(2, "This is an act.");
    Due.isAnAct("addEnd", x -> x.addEnd(600), x -> x.addEnd(600));
    Due.isAnAct("addEnd of new works", x -> { }, x -> x.addEnd(0));
  }

  private static void minutes() {
    Due.promise(2, "- `minute`: 0 to 1439");
    CountedBuses x = Due.worksWithEnds(600);
    for (int minute = 0; minute <= 1439; minute++) {
      if (x.calls() > 500) {
        x = Due.worksWithEnds(600);
      }
      Due.due("addEnd(" + minute + ")", x.addEnd(minute), 1);
      Due.due("its minute", x.bus(1, 1, 0), minute);
      x.undo();
    }
    CountedBuses y = Due.worksWithEnds(600);
    Due.each("addEnd of the minute", Due.NO_MINUTES, y::addEnd, -2);
    Due.due("shift ends", y.count(0), 1);
  }

  private static void returnsItsNumber() {
    Due.promise(2, "Returns its number; BAD_VALUE; FULL if there are 10.");
    CountedBuses x = new CountedBuses();
    for (int end = 0; end < 10; end++) {
      Due.due("no minute, room", x.addEnd(1440), -2);
      Due.due("addEnd", x.addEnd(1439 - end), end);
    }
    Due.due("no minute, no room", x.addEnd(-1), -2);
    Due.due("no room", x.addEnd(0), -3);
    x.undo();
    Due.due("room for one", x.addEnd(0), 9);
    Due.due("no room", x.addEnd(0), -3);
  }

  public static void main(String[] args) {
    CountedBuses x = new CountedBuses();
    Due.due("addEnd(-1)", x.addEnd(-1), -2);
    Due.due("addEnd(1440)", x.addEnd(1440), -2);
    Due.due("addEnd(least int)", x.addEnd(Integer.MIN_VALUE), -2);
    Due.due("addEnd(greatest int)", x.addEnd(Integer.MAX_VALUE), -2);
    Due.due("no state is recorded by an error", x.count(16), 0);
    int[] minutes = {0, 1439, 700, 700, 1, 2, 3, 4, 5, 6};
    for (int end = 0; end < 10; end++) {
      Due.due("addEnd", x.addEnd(minutes[end]), end);
      Due.due("its bus starts", x.bus(0, end, 0), minutes[end]);
      Due.due("and that of the other line", x.bus(1, end, 0), minutes[end]);
      Due.due("count(0)", x.count(0), end + 1);
      Due.due("it is an act", x.count(16), Math.min(4, end + 1));
    }
    String before = Due.allOf(x);
    Due.due("addEnd when there are 10", x.addEnd(100), -3);
    Due.due("the bad minute comes first", x.addEnd(1440), -2);
    Due.holds("errors change nothing", before.equals(Due.allOf(x)));
    Due.due("undo()", x.undo(), 3);
    Due.due("count(0) after undo()", x.count(0), 9);
    Due.due("the number is free again then", x.addEnd(8), 9);

    CountedBuses y = Due.worksWithEnds(600);
    y.set(1, 1);
    y.book(0, 0, 1);
    y.book(0, 0, 1);
    y.addEnd(601);
    Due.due("who waits is not looked at by it", y.worker(1, 3), 0);
    addsAShiftEnd();
    isAnAct();
    minutes();
    returnsItsNumber();
    Due.finish();
  }
}
