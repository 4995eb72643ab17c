/** Promise 1: a new object is works without shift ends, with the settings that hold at first. */
public final class Promise01NewObjectTest {
  private static void worksWithoutShiftEnds() {
    Due.promise(1, "`ShiftBuses()`: Creates works without shift ends.");
    CountedBuses x = new CountedBuses();
    Due.due("shift ends", x.count(0), 0);
    Due.due("the first one by rising minutes", x.byMinute(0), -5);
    for (int end = -1; end <= 10; end++) {
      for (int line = 0; line < 2; line++) {
        Due.due("bus of the shift end " + end, x.bus(line, end, 0), -1);
        Due.due("book of the shift end " + end, x.book(end, line, 1), -1);
        Due.due("why of the shift end " + end, x.why(line, end, 1), 1);
      }
    }
    Due.due("the first one that is added", x.addEnd(600), 0);
    Due.due("shift ends of the next new object", new CountedBuses().count(0), 0);
  }

  public static void main(String[] args) {
    CountedBuses x = new CountedBuses();
    int[] first = {0, 0, 0, 0, 0, 0, 0, 0, 0, 0, 0, 5, 6, 30, 90, 0, 0, 0};
    for (int what = 0; what < first.length; what++) {
      Due.due("count(" + what + ")", x.count(what), first[what]);
    }
    Due.due("byMinute(0)", x.byMinute(0), -5);
    Due.due("worker(0, 0)", x.worker(0, 0), -1);
    Due.due("bus(0, 0, 0)", x.bus(0, 0, 0), -1);
    Due.due("taken(0, 0, 1)", x.taken(0, 0, 1), -1);
    Due.due("why(0, 0, 1)", x.why(0, 0, 1), 1);
    Due.due("undo()", x.undo(), -5);
    Due.due("restore()", x.restore(), -5);
    Due.due("clearText()", x.clearText(), 0);
    Due.due("bookAll()", x.bookAll(), -100);

    CountedBuses y = new CountedBuses();
    y.addEnd(600);
    Due.due("count(0) of one object", y.count(0), 1);
    Due.due("count(0) of the other object", x.count(0), 0);

    Due.due("UNKNOWN", ShiftBuses.UNKNOWN, -1);
    Due.due("BAD_VALUE", ShiftBuses.BAD_VALUE, -2);
    Due.due("FULL", ShiftBuses.FULL, -3);
    Due.due("NOT_POSSIBLE", ShiftBuses.NOT_POSSIBLE, -4);
    Due.due("NONE", ShiftBuses.NONE, -5);
    worksWithoutShiftEnds();
    Due.finish();
  }
}
