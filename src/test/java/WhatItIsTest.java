/** "What it is": each thing that the document's first sentence names, on one object, one after the other. */
public final class WhatItIsTest {
  private static final CountedBuses X = new CountedBuses();

  private static void shiftEnds() {
    Due.sentence("# ShiftBuses ## What it is Buses that bring workers home at the ends of shifts: shift ends by the clock,");
    Due.due("a shift that ends at 15:00", X.addEnd(900), 0);
    Due.due("a shift that ends at 14:40", X.addEnd(880), 1);
    Due.due("the earlier one by the clock", X.byMinute(0), 1);
    Due.due("the later one by the clock", X.byMinute(1), 0);
    Due.due("the bus at 15:00", X.bus(0, 0, 0), 900);
  }

  private static void workersWithStops() {
    Due.sentence("workers with stops on a line of stops,");
    Due.due("a worker who goes to the stop 4 of the line 1", X.book(0, 1, 4), 0);
    Due.due("the line", X.worker(0, 1), 1);
    Due.due("the stop", X.worker(0, 2), 4);
  }

  private static void seats() {
    Due.sentence("seats that are asked for and promised,");
    Due.due("a bus with one seat", X.set(1, 1), 6);
    Due.due("a seat that is asked for", X.book(1, 1, 6), 1);
    Due.due("and promised", X.worker(1, 3), 1);
    Due.due("one that is asked for where there is none", X.book(1, 1, 3), 2);
    Due.due("and not promised", X.worker(2, 3), 0);
  }

  private static void mergedAndParted() {
    Due.sentence("routes that are merged when both are thin, parted again when they fill,");
    Due.due("both are full", X.merge(1, 0, 1), -4);
    X.set(1, 3);
    Due.due("both are thin", X.merge(1, 0, 1), 900);
    Due.due("one bus of three", X.bus(1, 1, 2), 3);
    Due.due("it is full", X.why(1, 0, 1), 2);
    Due.due("part", X.part(1, 0), 1);
    Due.due("there are seats again", X.why(1, 0, 1), 0);
    Due.due("in both of them", X.why(1, 1, 1), 0);
  }

  private static void alongTheStops() {
    Due.sentence("buses that go from the works out along the stops, rides in time,");
    Due.due("to the stop 4", X.worker(0, 4), 20);
    Due.due("to the stop 6", X.worker(1, 4), 30);
    Due.due("to the stop 3", X.worker(2, 4), 15);
    Due.due("as far as the farthest one", X.bus(1, 1, 4), 6);
    Due.due("all in time", X.passDay(), 0);
    Due.due("rides", X.count(6), 3);
  }

  private static void stayingLonger() {
    Due.sentence("workers who stay longer and change their shift,");
    Due.due("stay until 15:00", X.stay(2, 0), 1);
    Due.due("the shift end", X.worker(2, 0), 0);
    Due.due("by the later bus", X.bus(1, 0, 2), 2);
  }

  private static void guaranteedRides() {
    Due.sentence("guaranteed rides by taxi for whoever was promised and is left,");
    X.set(1, 1);
    Due.due("one of two is left", X.passDay(), 1);
    Due.due("the one of the stop 3", X.worker(2, 7), 1);
    Due.due("still promised", X.worker(2, 3), 1);
  }

  private static void whyNot() {
    Due.sentence("why a seat is not promised, how full each bus is on each stretch,");
    Due.due("no such shift end", X.why(1, 2, 1), 1);
    Due.due("no seat left", X.why(1, 0, 1), 2);
    X.set(0, 20);
    Due.due("too late", X.why(0, 0, 9), 3);
    Due.due("it can be promised", X.why(0, 0, 4), 0);
    X.set(0, 5);
    int[] taken = {2, 2, 2, 1, 0, 0, 0, 0, 0};
    for (int stop = 1; stop <= 9; stop++) {
      Due.due("the stretch to " + stop, X.taken(1, 0, stop), taken[stop - 1]);
    }
  }

  private static void sparing() {
    Due.sentence("what merging would spare, costs that add up, days that pass,");
    X.set(1, 3);
    Due.due("28 and 32 less 32", X.spares(1, 0, 1), 28);
    Due.due("days so far", X.count(5), 2);
    Due.due("what buses cost so far", X.count(9), 28 + 32 + 28 + 32);
    Due.due("what taxis cost so far", X.count(10), 17);
    X.passDay();
    Due.due("days so far", X.count(5), 3);
    Due.due("what buses cost so far", X.count(9), 28 + 32 + 28 + 32 + 28 + 32);
  }

  private static void texts() {
    Due.sentence("bookings that are read from a text with the places of faults,");
    Due.typeText(X, "0a12,1b");
    Due.due("the place of the fault", X.bookAll(), -107);
    Due.due("type", X.type('9'), 8);
    Due.due("three bookings", X.bookAll(), 3);
    Due.due("the last one's stop", X.worker(5, 2), 9);
  }

  private static void undoAndSnapshot() {
    Due.sentence("undo and a snapshot.");
    Due.due("keep", X.keep(), 6);
    Due.due("takeBack", X.takeBack(0), 0);
    Due.due("undo", X.undo(), 3);
    Due.due("the worker is back", X.worker(0, 2), 4);
    Due.due("undo of the text's bookings", X.undo(), 2);
    Due.due("workers", X.count(1), 3);
    Due.due("restore", X.restore(), 6);
    Due.due("workers", X.count(1), 6);
  }

  public static void main(String[] args) {
    shiftEnds();
    workersWithStops();
    seats();
    mergedAndParted();
    alongTheStops();
    stayingLonger();
    guaranteedRides();
    whyNot();
    sparing();
    texts();
    undoAndSnapshot();
    Due.finish();
  }
}
