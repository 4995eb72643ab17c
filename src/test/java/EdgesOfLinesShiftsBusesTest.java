/** LINES, SHIFTS, BUSES: each sentence that names a boundary, just below, at and just above it. */
public final class EdgesOfLinesShiftsBusesTest {
  private static void twoLines() {
    Due.sentence("There are two lines of stops, 0 and 1");
    CountedBuses x = Due.worksWithEnds(600, 610);
    for (int line : Due.NO_LINES) {
      String of = " of the line " + line;
      Due.due("book" + of, x.book(0, line, 1), -1);
      Due.due("merge" + of, x.merge(line, 0, 1), -1);
      Due.due("part" + of, x.part(line, 0), -1);
      Due.due("bus" + of, x.bus(line, 0, 0), -1);
      Due.due("taken" + of, x.taken(line, 0, 1), -1);
      Due.due("why" + of, x.why(line, 0, 1), -1);
      Due.due("spares" + of, x.spares(line, 0, 1), -1);
    }
    for (int line = 0; line < 2; line++) {
      String of = " of the line " + line;
      Due.due("book" + of, x.book(0, line, 1), line);
      Due.due("spares" + of, x.spares(line, 0, 1), 0);
      Due.due("merge" + of, x.merge(line, 0, 1), 610);
      Due.due("bus" + of, x.bus(line, 0, 0), 610);
      Due.due("taken" + of, x.taken(line, 0, 1), 1);
      Due.due("why" + of, x.why(line, 0, 1), 0);
      Due.due("part" + of, x.part(line, 0), 1);
    }
  }

  private static void nineStops() {
    Due.sentence("each with 9 stops, numbered 1 to 9 from the works out; the works are at 0");
    CountedBuses x = Due.worksWithEnds(600);
    for (int stop : Due.NO_STOPS) {
      String of = " of the stop " + stop;
      Due.due("book" + of, x.book(0, 0, stop), -1);
      Due.due("taken" + of, x.taken(0, 0, stop), -1);
      Due.due("why" + of, x.why(0, 0, stop), -1);
      Due.due("why" + of + " without a shift end", x.why(0, 5, stop), -1);
    }
    for (int stop = 1; stop <= 9; stop++) {
      String of = " of the stop " + stop;
      Due.due("why" + of, x.why(1, 0, stop), 0);
      Due.due("book" + of, x.book(0, 1, stop), stop - 1);
      Due.due("stop" + of, x.worker(stop - 1, 2), stop);
      Due.due("taken" + of, x.taken(1, 0, stop), 1);
      x.takeBack(stop - 1);
    }
  }

  private static void minutesBetweenStops() {
    Due.sentence("Between two stops that follow one another a bus needs so many minutes as the setting 0 tells"
        + " (1 to 20; 5 at first).");
    CountedBuses x = Due.worksWithEnds(0, 1439);
    x.set(3, 300);
    for (int stop = 1; stop <= 9; stop++) {
      x.book(stop % 2, 0, stop);
    }
    int[] minutes = {5, 1, 20, 19, 2};
    for (int i = 0; i < minutes.length; i++) {
      Due.due("set", x.set(0, minutes[i]), i == 0 ? -5 : minutes[i - 1]);
      for (int stop = 1; stop <= 9; stop++) {
        Due.due("minutes to the stop " + stop, x.worker(stop - 1, 4), stop * minutes[i]);
      }
    }
  }

  private static void tenShiftEnds() {
    Due.sentence("There are at most 10 shift ends, numbered from 0, each at a minute of the day (0 to 1439).");
    CountedBuses x = new CountedBuses();
    int[] minutes = {0, 1439, 1, 1438, 720, 720, 0, 1439, 300, 301};
    for (int end = 0; end < 10; end++) {
      for (int minute : Due.NO_MINUTES) {
        Due.due("addEnd(" + minute + ")", x.addEnd(minute), -2);
      }
      Due.due("there is no shift end " + end + " yet", x.bus(0, end, 0), -1);
      Due.due("addEnd(" + minutes[end] + ")", x.addEnd(minutes[end]), end);
      Due.due("its minute", x.bus(0, end, 0), minutes[end]);
      Due.due("how many there are", x.count(0), end + 1);
    }
    Due.due("the eleventh", x.addEnd(0), -3);
    Due.due("the eleventh", x.addEnd(1439), -3);
    Due.due("there is no shift end 10", x.bus(0, 10, 0), -1);
    for (int end = 0; end < 10; end++) {
      Due.due("the minute of " + end + " still", x.bus(1, end, 0), minutes[end]);
    }
    Due.due("the last one can be booked", x.book(9, 1, 9), 0);
    Due.due("none behind it", x.book(10, 1, 9), -1);
    Due.due("none ahead of the first one", x.book(-1, 1, 9), -1);
  }

  private static void shiftEndsThatAreNotThere() {
    Due.sentence("The constants: `UNKNOWN = -1`: There is no such shift end, worker, line or stop.");
    for (int ends = 0; ends <= 3; ends++) {
      CountedBuses x = Due.worksWithEnds(java.util.Arrays.copyOf(new int[] {600, 610, 620}, ends));
      int[] none = {ends, ends + 1, -1, 9, 10, 11, -5, 256, 65536, Integer.MIN_VALUE, Integer.MAX_VALUE};
      for (int end : none) {
        String of = " of the shift end " + end + " where there are " + ends;
        Due.due("book" + of, x.book(end, 0, 1), -1);
        Due.due("merge" + of, x.merge(0, end, 0), -1);
        Due.due("merge with one" + of, x.merge(0, 0, end), -1);
        Due.due("part" + of, x.part(0, end), -1);
        Due.due("bus" + of, x.bus(0, end, 0), -1);
        Due.due("taken" + of, x.taken(0, end, 1), -1);
        Due.due("why" + of, x.why(0, end, 1), 1);
        Due.due("spares" + of, x.spares(0, end, 0), -1);
        Due.due("spares with one" + of, x.spares(0, 0, end), -1);
      }
    }
    CountedBuses y = Due.worksWithEnds(600, 610);
    y.book(0, 0, 1);
    int[] none = {2, 3, -1, 10, -5, 257, Integer.MIN_VALUE, Integer.MAX_VALUE};
    for (int end : none) {
      Due.due("stay to the shift end " + end, y.stay(0, end), -1);
    }
    Due.due("stay to the last one", y.stay(0, 1), 1);
    Due.due("stay to the first one", y.stay(0, 0), 1);
  }

  private static void seatsOfABus() {
    Due.sentence("there is one bus with so many seats as the setting 1 tells (1 to 30; 6 at first)");
    int[] seats = {6, 1, 2, 7, 29, 30};
    for (int many : seats) {
      CountedBuses x = Due.worksWithEnds(600);
      if (many != 6) {
        x.set(1, many);
      }
      for (int w = 0; w < 30; w++) {
        Due.due("a seat is left ahead of " + w, x.why(0, 0, 9), w < many ? 0 : 2);
        x.book(0, 0, 1 + w % 9);
        Due.due("worker " + w + " of " + many + " seats", x.worker(w, 3), w < many ? 1 : 0);
      }
      Due.due("riders", x.bus(0, 0, 2), many);
      Due.due("those who wait", x.bus(0, 0, 3), 30 - many);
    }
  }

  private static void oneBusForEachShiftEndAndLine() {
    Due.sentence("For each shift end and line there is one bus");
    CountedBuses x = Due.worksWithEnds(600, 600);
    x.set(1, 1);
    for (int w = 0; w < 4; w++) {
      x.book(w % 2, w < 2 ? 0 : 1, 9);
      Due.due("the bus of its own", x.worker(w, 3), 1);
    }
    for (int w = 4; w < 8; w++) {
      x.book(w % 2, w < 6 ? 0 : 1, 9);
      Due.due("each is full then", x.worker(w, 3), 0);
    }
  }

  private static void startsAtItsMinute() {
    Due.sentence("which starts at that minute, as long as it is not merged away");
    CountedBuses x = Due.worksWithEnds(630, 600, 1439, 0);
    int[] minutes = {630, 600, 1439, 0};
    for (int end = 0; end < 4; end++) {
      Due.due("the line 0", x.bus(0, end, 0), minutes[end]);
      Due.due("the line 1", x.bus(1, end, 0), minutes[end]);
    }
    x.merge(1, 1, 0);
    Due.due("merged away", x.bus(1, 1, 0), 630);
    Due.due("not merged away", x.bus(1, 0, 0), 630);
    Due.due("the other line", x.bus(0, 1, 0), 600);
    x.part(1, 1);
    Due.due("parted", x.bus(1, 1, 0), 600);
    Due.due("parted", x.bus(1, 0, 0), 630);
  }

  private static void dueOfMerging(int minute, int other, int apart, boolean possible) {
    CountedBuses x = Due.worksWithEnds(minute, other);
    x.set(2, apart);
    String what = minute + " and " + other + " with the setting 2 at " + apart;
    Due.due("spares of " + what, x.spares(0, 0, 1), possible ? 0 : -4);
    Due.due("spares of " + what, x.spares(0, 1, 0), possible ? 0 : -4);
    Due.due("merge of " + what, x.merge(0, 0, 1), possible ? Math.max(minute, other) : -4);
    Due.due("merge of " + what, x.merge(1, 1, 0), possible ? Math.max(minute, other) : -4);
  }

  private static void minutesApart() {
    Due.sentence("Two buses of one line, of two shift ends whose minutes of the day differ by at most the setting 2 (0 to 120;"
        + " 30 at first; not round midnight), can be merged");
    Due.due("30 at first", new CountedBuses().count(13), 30);
    int[] aparts = {0, 1, 29, 30, 31, 119, 120};
    for (int apart : aparts) {
      dueOfMerging(600, 600 + apart, apart, true);
      dueOfMerging(600 + apart, 600, apart, true);
      dueOfMerging(600, 600 + apart + 1, apart, false);
      dueOfMerging(600 + apart + 1, 600, apart, false);
      dueOfMerging(0, apart, apart, true);
      dueOfMerging(1439 - apart, 1439, apart, true);
      dueOfMerging(0, 1439, apart, false);
      dueOfMerging(1439, 0, apart, false);
    }
    dueOfMerging(1430, 5, 120, false);
    dueOfMerging(5, 1430, 120, false);
    dueOfMerging(719, 720, 1, true);
    dueOfMerging(0, 720, 120, false);
  }

  private static void bothAreOneBus() {
    Due.sentence("then the bus of the earlier one waits, and both are one bus, with as many seats as one, that starts at"
        + " the later one");
    int[][] orders = {{0, 1}, {1, 0}};
    for (int[] order : orders) {
      CountedBuses x = Due.worksWithEnds(600, 620);
      x.set(1, 3);
      Due.due("merge", x.merge(0, order[0], order[1]), 620);
      for (int w = 0; w < 4; w++) {
        x.book(w % 2, 0, 2);
        Due.due("three seats for both, worker " + w, x.worker(w, 3), w < 3 ? 1 : 0);
        Due.due("20 minutes to wait for the earlier one", x.worker(w, 4), w % 2 == 0 ? 30 : 10);
      }
      for (int end = 0; end < 2; end++) {
        Due.due("start", x.bus(0, end, 0), 620);
        Due.due("the other one", x.bus(0, end, 1), 1 - end);
        Due.due("riders of both", x.bus(0, end, 2), 3);
        Due.due("those of both who wait", x.bus(0, end, 3), 1);
        Due.due("taken by both", x.taken(0, end, 2), 3);
      }
    }
  }

  private static void partedAgain() {
    Due.sentence("A bus that was merged away can be parted again.");
    for (int end = 0; end < 2; end++) {
      CountedBuses x = Due.worksWithEnds(600, 600);
      for (int times = 0; times < 3; times++) {
        Due.due("merge", x.merge(1, end, 1 - end), 600);
        Due.due("part", x.part(1, end), 1 - end);
        Due.due("with nobody", x.bus(1, end, 1), -5);
        Due.due("with nobody", x.bus(1, 1 - end, 1), -5);
        Due.due("parted already", x.part(1, 1 - end), -5);
      }
    }
  }

  private static void atMostTwoAreOne() {
    Due.sentence("At most two buses are one.");
    CountedBuses x = Due.worksWithEnds(600, 610, 620, 630);
    x.merge(0, 0, 1);
    int[][] no = {{0, 1}, {1, 0}, {0, 2}, {2, 0}, {1, 2}, {2, 1}, {1, 3}, {3, 0}};
    for (int[] a : no) {
      Due.due("merge of " + a[0] + " and " + a[1], x.merge(0, a[0], a[1]), -4);
      Due.due("spares of " + a[0] + " and " + a[1], x.spares(0, a[0], a[1]), -4);
    }
    Due.due("two others", x.spares(0, 3, 2), 0);
    Due.due("two others", x.merge(0, 3, 2), 630);
    Due.due("the same two of the other line", x.merge(1, 1, 0), 610);
    Due.due("pairs", x.count(4), 3);
    Due.due("two pairs are not one", x.merge(0, 1, 2), -4);

    CountedBuses all = Due.worksWithEnds(600, 600, 600, 600, 600, 600, 600, 600, 600, 600);
    for (int pair = 0; pair < 5; pair++) {
      for (int line = 0; line < 2; line++) {
        Due.due("merge", all.merge(line, pair, 9 - pair), 600);
        Due.due("pairs", all.count(4), 2 * pair + line + 1);
      }
    }
    for (int end = 0; end < 10; end++) {
      Due.due("the other one of " + end, all.bus(0, end, 1), 9 - end);
      Due.due("the other one of " + end, all.bus(1, end, 1), 9 - end);
    }
    Due.due("part", all.part(1, 9), 0);
    Due.due("pairs", all.count(4), 9);
  }

  /** Days until but one call is left; the last one asks for a total. */
  private static void totalAtTheLastCall(int what, int want) {
    CountedBuses x = Due.worksWithEnds(600, 600);
    x.set(1, 10);
    for (int w = 0; w < 30; w++) {
      x.book(w < 20 ? 0 : 1, 0, 9);
    }
    x.set(1, 1); // of twenty with promises two ride and eighteen go by taxi, ten walk
    int days = 0;
    while (x.calls() < CountedBuses.MOST_CALLS - 1) {
      Due.due("taxis of a day", x.passDay(), 18);
      days++;
    }
    Due.due("days", days, 477);
    Due.due("count(" + what + ") at the 512th call", x.count(what), want);
  }

  private static void asManyCallsAsAreUsed() {
    Due.sentence("An object is used for at most 512 calls after it has been made");
    totalAtTheLastCall(5, 477);
    totalAtTheLastCall(6, 477 * 2);
    totalAtTheLastCall(7, 477 * 18);
    totalAtTheLastCall(8, 477 * 10);
    totalAtTheLastCall(9, 477 * 2 * 38);
    totalAtTheLastCall(10, 477 * 18 * 35);
    totalAtTheLastCall(16, 4);
    CountedBuses x = Due.worksWithEnds(600);
    for (int booking = 0; x.calls() < CountedBuses.MOST_CALLS - 1; booking++) {
      Due.due("book", x.book(0, 0, 1), booking);
      Due.due("takeBack", x.takeBack(booking), 0);
    }
    Due.due("bookings so far at the 512th call", x.count(15), 255);
  }

  public static void main(String[] args) {
    twoLines();
    nineStops();
    minutesBetweenStops();
    tenShiftEnds();
    shiftEndsThatAreNotThere();
    seatsOfABus();
    oneBusForEachShiftEndAndLine();
    startsAtItsMinute();
    minutesApart();
    bothAreOneBus();
    partedAgain();
    atMostTwoAreOne();
    asManyCallsAsAreUsed();
    Due.finish();
  }
}
