/** What is set and what is told: each range just below, at and just above, the empty case and the full one. */
public final class EdgesOfWhatIsToldTest {
  private static final int[] FIRST = {5, 6, 30, 90};
  private static final int[] LEAST = {1, 1, 0, 10};
  private static final int[] MOST = {20, 30, 120, 300};

  // -- set

  private static void eachValue() {
    Due.sentence("Returns the previous one; BAD_VALUE (which or value); NONE if it is so already.");
    for (int which = 0; which < 4; which++) {
      CountedBuses x = new CountedBuses();
      int previous = FIRST[which];
      for (int value = LEAST[which] - 3; value <= MOST[which] + 3; value++) {
        boolean isInRange = value >= LEAST[which] && value <= MOST[which];
        int want = !isInRange ? -2 : value == previous ? -5 : previous;
        Due.due("set(" + which + ", " + value + ")", x.set(which, value), want);
        previous = isInRange ? value : previous;
      }
      Due.due("the setting " + which, x.count(11 + which), MOST[which]);
      for (int other = 0; other < 4; other++) {
        Due.due("the setting " + other, x.count(11 + other), other == which ? MOST[other] : FIRST[other]);
      }
      Due.due("so already", x.set(which, MOST[which]), -5);
      Due.due("to the least", x.set(which, LEAST[which]), MOST[which]);
      Due.due("so already", x.set(which, LEAST[which]), -5);
      Due.due("below the least", x.set(which, LEAST[which] - 1), -2);
      Due.due("states", x.count(16), 4);
    }
  }

  private static void noSuchSetting() {
    Due.sentence("`which`: 0 to 3");
    CountedBuses x = new CountedBuses();
    int[] whichs = {-1, 4, 5, -2, -5, 256, 65536, Integer.MIN_VALUE, Integer.MAX_VALUE};
    int[] values = {0, 1, 5, 6, 10, 20, 30, 90, 300, -1};
    for (int which : whichs) {
      for (int value : values) {
        Due.due("set(" + which + ", " + value + ")", x.set(which, value), -2);
      }
    }
    int[] noValues = {257, 266, 65537, 65546, -246, Integer.MIN_VALUE, Integer.MAX_VALUE, Integer.MIN_VALUE + 10};
    for (int value : noValues) {
      for (int which = 0; which < 4; which++) {
        boolean isOne = value >= LEAST[which] && value <= MOST[which];
        Due.due("set(" + which + ", " + value + ")", x.set(which, value), isOne ? FIRST[which] : -2);
        x.undo();
      }
    }
    Due.due("states", x.count(16), 0);
  }

  // -- worker

  private static void whatOfAWorker() {
    Due.sentence("0 for the shift end, 1 for the line, 2 for the stop, 3 for whether a seat is promised (1, otherwise 0), 4 for"
        + " the minutes behind the own shift end at which the bus is at the stop, 5 for the reason if a booking like this came"
        + " now, by the others that there are, 6 for how often the worker rode home by bus, 7 for how often by taxi, 8 for how"
        + " often the worker walked");
    CountedBuses x = Due.worksWithEnds(700, 600, 615);
    x.set(3, 60);
    x.book(2, 1, 9);
    x.book(1, 1, 9);
    x.merge(1, 2, 1);
    x.book(1, 1, 9); // 15 to wait and 45 to ride: just in time
    x.set(3, 59);
    x.passDay(); // 0 by bus, 1 and 2 late by now
    x.book(1, 1, 9); // 3 waits
    x.passDay();
    int[][] due = {{2, 1, 9, 1, 45, 0, 2, 0, 0}, {1, 1, 9, 1, 60, 3, 0, 2, 0}, {1, 1, 9, 1, 60, 3, 0, 2, 0},
        {1, 1, 9, 0, 60, 3, 0, 0, 1}};
    for (int w = 0; w < due.length; w++) {
      for (int what = 0; what <= 8; what++) {
        Due.due("worker(" + w + ", " + what + ")", x.worker(w, what), due[w][what]);
      }
      int[] bad = {-1, 9, 10, -5, 256, 65536, Integer.MIN_VALUE, Integer.MAX_VALUE};
      for (int what : bad) {
        Due.due("worker(" + w + ", " + what + ")", x.worker(w, what), -2);
      }
    }
    int[] nobody = {-1, 4, 5, 30, 256, Integer.MIN_VALUE, Integer.MAX_VALUE};
    for (int w : nobody) {
      for (int what = -1; what <= 9; what++) {
        Due.due("worker(" + w + ", " + what + ")", x.worker(w, what), -1);
      }
    }
  }

  private static void byTheOthers() {
    Due.sentence("5 for the reason if a booking like this came now, by the others that there are");
    CountedBuses x = Due.worksWithEnds(600);
    for (int w = 0; w < 8; w++) {
      x.book(0, 0, 1 + w);
    }
    for (int w = 0; w < 8; w++) {
      Due.due("six seats, worker " + w, x.worker(w, 5), w < 6 ? 0 : 2);
    }
    x.set(1, 5);
    for (int w = 0; w < 8; w++) {
      Due.due("five seats by now, worker " + w, x.worker(w, 5), 2);
    }
    x.set(1, 7);
    for (int w = 0; w < 8; w++) {
      Due.due("seven seats, worker " + w, x.worker(w, 5), w < 7 ? 0 : 2);
    }
    x.set(1, 8);
    for (int w = 0; w < 8; w++) {
      Due.due("eight seats, worker " + w, x.worker(w, 5), 0);
    }
    x.set(0, 20);
    for (int w = 0; w < 8; w++) {
      Due.due("20 minutes a stretch, worker " + w, x.worker(w, 5), 20 * (1 + w) > 90 ? 3 : 0);
    }
  }

  // -- bus

  private static void dueOfBus(CountedBuses x, int line, int end, int... want) {
    for (int what = 0; what <= 5; what++) {
      Due.due("bus(" + line + ", " + end + ", " + what + ")", x.bus(line, end, what), want[what]);
    }
    int[] bad = {-1, 6, 7, -5, 256, 65536, Integer.MIN_VALUE, Integer.MAX_VALUE};
    for (int what : bad) {
      Due.due("bus(" + line + ", " + end + ", " + what + ")", x.bus(line, end, what), -2);
    }
  }

  private static void whatOfABus() {
    Due.sentence("0 for the minute at which its bus starts, 1 for the shift end with which it is merged (NONE without one), 2 for"
        + " its riders with promises (of both), 3 for those that wait for it (of both), 4 for its farthest stop of a rider with"
        + " a promise (0 without one), 5 for what it would cost today (0 if it would not go; taxis do not count)");
    CountedBuses x = Due.worksWithEnds(0, 30, 1439);
    x.set(1, 2);
    dueOfBus(x, 0, 0, 0, -5, 0, 0, 0, 0);
    dueOfBus(x, 1, 2, 1439, -5, 0, 0, 0, 0);
    x.book(0, 0, 9);
    x.book(1, 0, 1);
    dueOfBus(x, 0, 0, 0, -5, 1, 0, 9, 38);
    dueOfBus(x, 0, 1, 30, -5, 1, 0, 1, 22);
    x.merge(0, 1, 0);
    dueOfBus(x, 0, 0, 30, 1, 2, 0, 9, 38);
    x.book(0, 0, 8);
    x.book(1, 0, 8);
    dueOfBus(x, 0, 0, 30, 1, 2, 2, 9, 38);
    dueOfBus(x, 0, 1, 30, 0, 2, 2, 9, 38);
    x.set(3, 74); // one less than the 30 and 45 of the worker 0
    dueOfBus(x, 0, 1, 30, 0, 2, 2, 9, 22);
    x.set(0, 20);
    x.set(3, 19);
    dueOfBus(x, 0, 1, 30, 0, 2, 2, 9, 0);
    dueOfBus(x, 1, 1, 30, -5, 0, 0, 0, 0);
  }

  private static void whoWaitsHasNoStop() {
    Due.sentence("4 for its farthest stop of a rider with a promise (0 without one)");
    CountedBuses x = Due.worksWithEnds(600);
    x.set(3, 10);
    x.book(0, 1, 9);
    dueOfBus(x, 1, 0, 600, -5, 0, 1, 0, 0);
    x.book(0, 1, 1);
    dueOfBus(x, 1, 0, 600, -5, 1, 1, 1, 22);
    x.set(3, 45);
    dueOfBus(x, 1, 0, 600, -5, 2, 0, 9, 38);
  }

  private static void thirtyOnOneBus() {
    Due.sentence("2 for its riders with promises (of both), 3 for those that wait for it (of both)");
    CountedBuses x = Due.worksWithEnds(600, 600);
    x.set(1, 30);
    x.merge(0, 0, 1);
    for (int w = 0; w < 30; w++) {
      x.book(w % 2, 0, 1 + w % 9);
    }
    dueOfBus(x, 0, 0, 600, 1, 30, 0, 9, 38);
    for (int stop = 1; stop <= 9; stop++) {
      int riders = 0;
      for (int w = 0; w < 30; w++) {
        riders += 1 + w % 9 >= stop ? 1 : 0;
      }
      Due.due("taken to " + stop, x.taken(0, stop % 2, stop), riders);
    }
    Due.due("why", x.why(0, 0, 1), 2);
  }

  // -- byMinute

  private static void ranks() {
    Due.sentence("Returns the shift end; BAD_VALUE if rank is negative; NONE if there are not so many.");
    CountedBuses x = new CountedBuses();
    int[] minutes = {1439, 0, 700, 700, 0, 1439, 701, 699, 1, 1438};
    int[] order = {1, 4, 8, 7, 2, 3, 6, 9, 0, 5};
    for (int ends = 0; ends <= 10; ends++) {
      int rank = 0;
      for (int end : order) {
        if (end < ends) {
          Due.due("byMinute(" + rank + ") of " + ends, x.byMinute(rank), end);
          rank++;
        }
      }
      int[] none = {ends, ends + 1, 10, 11, 256, Integer.MAX_VALUE};
      for (int r : none) {
        Due.due("byMinute(" + r + ") of " + ends, x.byMinute(r), -5);
      }
      int[] negative = {-1, -2, -5, -256, Integer.MIN_VALUE};
      for (int r : negative) {
        Due.due("byMinute(" + r + ") of " + ends, x.byMinute(r), -2);
      }
      if (ends < 10) {
        x.addEnd(minutes[ends]);
      }
    }
  }

  // -- why and taken

  private static void whyOfAnyNumber() {
    Due.sentence("`end`: any number");
    CountedBuses x = new CountedBuses();
    int[] any = {0, 1, 9, 10, -1, -5, 256, Integer.MIN_VALUE, Integer.MAX_VALUE};
    for (int end : any) {
      Due.due("why of the shift end " + end, x.why(0, end, 1), 1);
      Due.due("why of the shift end " + end, x.why(1, end, 9), 1);
      Due.due("no line", x.why(2, end, 1), -1);
      Due.due("no stop", x.why(0, end, 0), -1);
      Due.due("no stop", x.why(0, end, 10), -1);
    }
    x.addEnd(600);
    for (int end : any) {
      Due.due("why of the shift end " + end, x.why(1, end, 9), end == 0 ? 0 : 1);
    }
  }

  // -- count

  private static void whatIsCounted() {
    Due.sentence("11 to 14 for the settings 0 to 3, 15 for bookings so far, 16 for the states in the history, 17 for the length"
        + " of the text");
    CountedBuses x = new CountedBuses();
    int[] bad = {-1, 18, 19, -5, 256, 65536, Integer.MIN_VALUE, Integer.MAX_VALUE};
    for (int what : bad) {
      Due.due("count(" + what + ")", x.count(what), -2);
    }
    x.set(0, 7);
    x.set(1, 8);
    x.set(2, 9);
    x.set(3, 11);
    for (int which = 0; which < 4; which++) {
      Due.due("the setting " + which, x.count(11 + which), new int[] {7, 8, 9, 11}[which]);
    }
    x.addEnd(600);
    Due.typeText(x, "0a111");
    x.bookAll();
    x.takeBack(1);
    Due.due("bookings so far", x.count(15), 3);
    Due.due("workers with bookings", x.count(1), 2);
    Due.due("the states", x.count(16), 4);
    Due.due("the length", x.count(17), 5);
  }

  private static void promisesAndThoseWhoWait() {
    Due.sentence("1 for workers with bookings, 2 for those with promises, 3 for those that wait, 4 for merged buses (pairs)");
    CountedBuses x = Due.worksWithEnds(600, 600, 600);
    x.set(1, 3);
    for (int w = 0; w < 30; w++) {
      x.book(w % 3, w % 2, 9);
      Due.due("bookings", x.count(1), w + 1);
      Due.due("promises", x.count(2), Math.min(18, w + 1));
      Due.due("those who wait", x.count(3), Math.max(0, w - 17));
    }
    for (int w = 0; w < 30; w++) {
      Due.due("those who wait after takeBack", x.takeBack(w), Math.max(0, 11 - w));
    }
    Due.due("promises", x.count(2), 0);
    Due.due("pairs", x.count(4), 0);
    x.merge(0, 0, 1);
    Due.due("pairs", x.count(4), 1);
    x.merge(1, 0, 1);
    Due.due("pairs", x.count(4), 2);
    x.part(0, 1);
    Due.due("pairs", x.count(4), 1);
  }

  public static void main(String[] args) {
    eachValue();
    noSuchSetting();
    whatOfAWorker();
    byTheOthers();
    whatOfABus();
    whoWaitsHasNoStop();
    thirtyOnOneBus();
    ranks();
    whyOfAnyNumber();
    whatIsCounted();
    promisesAndThoseWhoWait();
    Due.finish();
  }
}
