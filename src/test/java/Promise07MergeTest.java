/** Promise 7: merge. */
public final class Promise07MergeTest {
  private static void mergesTwo() {
    CountedBuses x = Due.worksWithEnds(630, 600, 615);
    x.book(0, 0, 2);
    x.book(1, 0, 7);
    Due.due("merge(0, 0, 1)", x.merge(0, 0, 1), 630);
    Due.due("it is an act", x.count(16), 4);
    Due.due("the earlier bus waits", x.bus(0, 1, 0), 630);
    Due.due("the later one starts as before", x.bus(0, 0, 0), 630);
    Due.due("the other line is not merged", x.bus(1, 1, 1), -5);
    Due.due("at most two are one", x.merge(0, 2, 1), -4);
    Due.due("at most two are one", x.merge(0, 0, 2), -4);
    Due.due("merged already", x.merge(0, 0, 1), -4);
    Due.due("the other line can be merged", x.merge(1, 2, 1), 615);
    Due.due("count(4)", x.count(4), 2);
    Due.due("undo()", x.undo(), 3);
    Due.due("count(4) after undo()", x.count(4), 1);
  }

  private static void asFarApartAsTold() {
    CountedBuses x = Due.worksWithEnds(600, 630, 661, 0, 1439);
    Due.due("31 minutes", x.merge(0, 1, 2), -4);
    Due.due("30 minutes", x.merge(0, 0, 1), 630);
    x.set(2, 0);
    Due.due("those that are one stay so", x.bus(0, 0, 1), 1);
    Due.due("not round midnight", x.merge(0, 3, 4), -4);
    x.set(2, 120);
    Due.due("not round midnight", x.merge(0, 4, 3), -4);
    CountedBuses y = Due.worksWithEnds(600, 600);
    y.set(2, 0);
    Due.due("0 minutes", y.merge(0, 0, 1), 600);
  }

  private static void seatsOfBoth() {
    CountedBuses x = Due.worksWithEnds(600, 610);
    x.set(1, 2);
    x.book(0, 0, 1);
    x.book(1, 0, 1);
    x.book(1, 0, 9);
    x.book(1, 0, 9); // waits
    Due.due("three riders, two seats", x.merge(0, 0, 1), -4);
    x.takeBack(0);
    Due.due("riders who wait do not count, all seats may be taken", x.merge(0, 0, 1), 610);
    CountedBuses y = Due.worksWithEnds(600, 610);
    y.set(1, 2);
    y.book(0, 0, 1);
    y.book(0, 0, 1);
    y.set(1, 1);
    Due.due("more riders than seats on one of both", y.merge(0, 0, 1), -4);
    Due.due("the other line is free", y.merge(1, 0, 1), 610);
  }

  private static void nobodyTooLate() {
    CountedBuses x = Due.worksWithEnds(600, 630);
    x.set(3, 50);
    x.book(0, 0, 5); // 30 to wait and 25 to ride
    Due.due("55 minutes behind the own end", x.merge(0, 0, 1), -4);
    x.set(3, 54);
    Due.due("54 is not enough", x.merge(0, 0, 1), -4);
    x.set(3, 55);
    Due.due("55 is", x.merge(0, 0, 1), 630);

    CountedBuses y = Due.worksWithEnds(600, 630);
    y.book(1, 0, 9);
    y.set(3, 44);
    Due.due("a rider of the later bus who is late already", y.merge(0, 0, 1), -4);
    CountedBuses z = Due.worksWithEnds(600, 630);
    z.set(3, 44);
    z.book(0, 0, 9);
    Due.due("who is late and waits does not matter", z.merge(0, 0, 1), 630);
  }

  /** A merged bus has no more seats than one, so who waits goes on waiting. */
  private static void whoWaitsGoesOnWaiting() {
    CountedBuses x = Due.worksWithEnds(600, 610);
    x.set(1, 1);
    x.book(0, 0, 1);
    x.book(0, 0, 2); // 1 waits
    Due.due("merge(0, 0, 1)", x.merge(0, 0, 1), 610);
    Due.due("the promise stays", x.worker(0, 3), 1);
    Due.due("worker(1, 3)", x.worker(1, 3), 0);
    x.book(1, 0, 1);
    Due.due("a booking of the other end is served by the same bus", x.worker(2, 3), 0);
  }

  private static void errors() {
    CountedBuses x = Due.worksWithEnds(600, 610, 800);
    String before = Due.allOf(x);
    int[][] unknown = {{-1, 0, 1}, {2, 0, 1}, {0, -1, 1}, {0, 3, 1}, {0, 0, 3}, {0, 0, -1}, {0, 7, 7}, {2, 0, 0}, {0, -5, -5},
        {0, 0, -5}, {Integer.MAX_VALUE, 0, 1}, {0, Integer.MIN_VALUE, 1}, {0, 0, Integer.MAX_VALUE}};
    for (int[] a : unknown) {
      Due.due("merge(" + a[0] + ", " + a[1] + ", " + a[2] + ")", x.merge(a[0], a[1], a[2]), -1);
    }
    Due.due("both are the same", x.merge(0, 1, 1), -2);
    Due.due("too far apart", x.merge(0, 1, 2), -4);
    Due.holds("errors change nothing", before.equals(Due.allOf(x)));
    x.merge(0, 0, 1);
    Due.due("both the same, merged already", x.merge(0, 1, 1), -2);
  }

  private static void mergesTheBusesOfTwo() {
    Due.promise(7, "`int merge(int line, int end, int other)`: Merges the bus of a shift end with that of another one.");
    CountedBuses x = Due.worksWithEnds(600, 610, 620);
    x.book(0, 1, 3);
    x.book(2, 1, 5);
    x.book(1, 1, 9);
    Due.due("merge", x.merge(1, 2, 0), 620);
    int[][] due = {{620, 2, 2, 0, 5, 30}, {610, -5, 1, 0, 9, 38}, {620, 0, 2, 0, 5, 30}};
    for (int end = 0; end < 3; end++) {
      for (int what = 0; what <= 5; what++) {
        Due.due("bus(1, " + end + ", " + what + ")", x.bus(1, end, what), due[end][what]);
      }
      Due.due("the other line", x.bus(0, end, 1), -5);
      Due.due("who is booked keeps the own shift end", x.worker(end, 0), new int[] {0, 2, 1}[end]);
    }
    Due.due("minutes behind the own shift end, of the earlier one", x.worker(0, 4), 35);
    Due.due("minutes behind the own shift end, of the later one", x.worker(1, 4), 25);
  }

  private static void isAnAct() {
    Due.promise(7, "This is an act.");
    Due.isAnAct("merge", x -> {
      x.addEnd(600);
      x.addEnd(600);
    }, x -> x.merge(0, 0, 1));
    Due.isAnAct("merge of buses with riders", x -> {
      x.addEnd(600);
      x.addEnd(630);
      x.book(0, 1, 9);
      x.book(1, 1, 9);
    }, x -> x.merge(1, 1, 0));
  }

  private static void whatIsMerged() {
    CountedBuses x = Due.worksWithEnds(600, 610, 620);
    Due.promise(7, "- `line`: 0 or 1");
    Due.each("merge of the line", Due.NO_LINES, line -> x.merge(line, 0, 1), -1);
    Due.promise(7, "- `end`: a shift end");
    Due.each("merge of the shift end", Due.NOBODY, end -> x.merge(0, end, 1), -1);
    Due.promise(7, "- `other`: another shift end");
    Due.each("merge with the shift end", Due.NOBODY, other -> x.merge(0, 0, other), -1);
    for (int line = 0; line < 2; line++) {
      for (int end = 0; end < 3; end++) {
        for (int other = 0; other < 3; other++) {
          int want = end == other ? -2 : 600 + 10 * Math.max(end, other);
          Due.due("merge(" + line + ", " + end + ", " + other + ")", x.merge(line, end, other), want);
          Due.due("part", x.part(line, end), end == other ? -5 : other);
        }
      }
    }
  }

  public static void main(String[] args) {
    mergesTwo();
    asFarApartAsTold();
    seatsOfBoth();
    nobodyTooLate();
    whoWaitsGoesOnWaiting();
    errors();
    mergesTheBusesOfTwo();
    isAnAct();
    whatIsMerged();
    Due.finish();
  }
}
