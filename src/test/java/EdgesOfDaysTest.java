/** A DAY: who rides home and how, what it costs, and each boundary of both. */
public final class EdgesOfDaysTest {
  private static final int BY_BUS = 6;
  private static final int BY_TAXI = 7;
  private static final int WALKED = 8;

  private static void due(String what, CountedBuses x, int how, int... want) {
    for (int w = 0; w < want.length; w++) {
      Due.due(what + ": worker(" + w + ", " + how + ")", x.worker(w, how), want[w]);
    }
  }

  private static void dueOfTotals(String what, CountedBuses x, int... want) {
    for (int i = 0; i < want.length; i++) {
      Due.due(what + ": count(" + (5 + i) + ")", x.count(5 + i), want[i]);
    }
  }

  private static void fartherStopsFirst() {
    Due.sentence("those come first whose stops are farther");
    CountedBuses x = Due.worksWithEnds(600);
    int[] stops = {1, 9, 2, 8, 5};
    for (int stop : stops) {
      x.book(0, 0, stop);
    }
    int[][] byBus = {{1, 1, 1, 1, 1}, {1, 2, 2, 2, 2}, {1, 3, 2, 3, 3}, {1, 4, 2, 4, 3}, {1, 5, 2, 4, 3}};
    for (int day = 0; day < 5; day++) {
      if (day > 0) {
        x.set(1, 5 - day);
      }
      Due.due("with the seats of day " + day, x.passDay(), day);
      due("with the seats of day " + day, x, BY_BUS, byBus[day]);
    }
    due("after five days", x, BY_TAXI, 4, 0, 3, 1, 2);
  }

  private static void ofSeveralByNumber() {
    Due.sentence("those come first whose stops are farther, of several by number");
    CountedBuses x = Due.worksWithEnds(600);
    x.book(0, 1, 1); // 0
    x.book(0, 0, 4); // 1
    x.book(0, 0, 4); // 2
    x.takeBack(0);
    x.book(0, 0, 4); // 3, in the row of 0 if rows are used again
    x.set(1, 2);
    Due.due("two seats for three", x.passDay(), 1);
    Due.due("the number 1", x.worker(1, BY_BUS), 1);
    Due.due("the number 2", x.worker(2, BY_BUS), 1);
    Due.due("the number 3", x.worker(3, BY_TAXI), 1);
    x.set(1, 1);
    Due.due("one seat for three", x.passDay(), 2);
    Due.due("the number 1", x.worker(1, BY_BUS), 2);
    Due.due("the number 2", x.worker(2, BY_TAXI), 1);
    Due.due("the number 3", x.worker(3, BY_TAXI), 2);
  }

  private static void ofBothShiftEndsAlike() {
    Due.sentence("those come first whose stops are farther, of several by number");
    CountedBuses x = Due.worksWithEnds(610, 600);
    x.merge(0, 0, 1);
    x.book(0, 0, 4);
    x.book(1, 0, 4);
    x.book(0, 0, 5);
    x.book(1, 0, 5);
    x.set(1, 3);
    Due.due("three seats", x.passDay(), 1);
    due("three seats", x, BY_BUS, 1, 0, 1, 1);
    x.set(1, 1);
    Due.due("one seat", x.passDay(), 3);
    due("one seat", x, BY_BUS, 1, 0, 2, 1);
    x.part(0, 1);
    Due.due("one seat of each bus", x.passDay(), 2);
    due("one seat of each bus", x, BY_BUS, 1, 0, 3, 2);
  }

  private static void fewerThanTheSeats() {
    Due.sentence("a rider has a seat if on each stretch to the stop fewer than the seats are taken by those ahead, and if the"
        + " stop is reached in time");
    for (int seats = 1; seats <= 30; seats++) {
      CountedBuses x = Due.worksWithEnds(600);
      x.set(1, 30);
      for (int w = 0; w < 30; w++) {
        x.book(0, 0, 9);
      }
      x.set(1, seats);
      Due.due("thirty riders, " + seats + " seats", x.passDay(), 30 - seats);
      Due.due("the last one with a seat", x.worker(seats - 1, BY_BUS), 1);
      Due.due("the last one", x.worker(29, BY_BUS), seats == 30 ? 1 : 0);
      dueOfTotals(seats + " seats", x, 1, seats, 30 - seats, 0, 38, 35 * (30 - seats));
    }
  }

  private static void fullBeforeTheStop() {
    Due.sentence("on each stretch to the stop fewer than the seats are taken by those ahead");
    CountedBuses x = Due.worksWithEnds(600);
    x.book(0, 0, 9);
    x.book(0, 0, 1);
    x.set(1, 1);
    Due.due("the nearer one finds the seat taken", x.passDay(), 1);
    due("one seat", x, BY_BUS, 1, 0);
    Due.due("a taxi to the stop 1", x.count(10), 11);
  }

  /** One rider; at the second day so many minutes are left. */
  private static void dueInTime(int end, int stop, int perStretch, int most, int taxis) {
    CountedBuses x = Due.worksWithEnds(600, 630);
    x.set(3, 300);
    x.merge(0, 0, 1);
    x.book(end, 0, stop);
    x.set(0, perStretch);
    Due.due("with 300 minutes", x.passDay(), 0);
    x.set(3, most);
    String what = "end " + end + ", stop " + stop + ", " + perStretch + " a stretch, " + most + " minutes";
    Due.due(what, x.passDay(), taxis);
    due(what, x, BY_BUS, 2 - taxis);
    due(what, x, BY_TAXI, taxis);
    Due.due(what + ": what the bus costs", x.bus(0, 0, 5), taxis == 0 ? 20 + 2 * stop : 0);
    dueOfTotals(what, x, 2, 2 - taxis, taxis, 0, (2 - taxis) * (20 + 2 * stop), taxis * (8 + 3 * stop));
  }

  private static void reachedInTime() {
    Due.sentence("if they still can (a setting may have become less since)");
    dueInTime(0, 9, 5, 75, 0);
    dueInTime(0, 9, 5, 74, 1);
    dueInTime(1, 9, 5, 45, 0);
    dueInTime(1, 9, 5, 44, 1);
    dueInTime(0, 1, 20, 50, 0);
    dueInTime(0, 1, 20, 49, 1);
    dueInTime(1, 1, 10, 10, 0);
    dueInTime(1, 1, 11, 10, 1);
    CountedBuses x = Due.worksWithEnds(600);
    x.book(0, 0, 9);
    x.set(3, 45);
    Due.due("45 of 45", x.passDay(), 0);
    x.set(0, 6);
    Due.due("a slower bus: 54 of 45", x.passDay(), 1);
    x.set(0, 1);
    Due.due("a faster one", x.passDay(), 0);
    due("three days", x, BY_BUS, 2);
  }

  private static void whoIsLateTakesNoSeat() {
    Due.sentence("whoever has none rides home by taxi, which is a guaranteed ride");
    CountedBuses x = Due.worksWithEnds(600, 630);
    x.merge(0, 0, 1);
    x.book(0, 0, 9); // late with 60 minutes: 30 and 45
    x.book(0, 0, 8); // late: 30 and 40
    x.book(1, 0, 8); // in time: 40
    x.book(0, 0, 6); // just in time: 60
    x.set(1, 2);
    x.set(3, 60);
    Due.due("two late ones, two seats", x.passDay(), 2);
    due("two late ones, two seats", x, BY_BUS, 0, 0, 1, 1);
    due("two late ones, two seats", x, BY_TAXI, 1, 1, 0, 0);
    dueOfTotals("two late ones, two seats", x, 1, 2, 2, 0, 36, 35 + 32);
    x.set(1, 1);
    Due.due("two late ones, one seat", x.passDay(), 3);
    due("two late ones, one seat", x, BY_BUS, 0, 0, 2, 1);
    Due.due("promises stay", x.count(2), 4);
  }

  private static void nobodyRides() {
    Due.sentence("A bus in which nobody rides then does not go.");
    CountedBuses empty = Due.worksWithEnds(600, 610);
    Due.due("nobody has a booking", empty.passDay(), 0);
    dueOfTotals("nobody has a booking", empty, 1, 0, 0, 0, 0, 0);

    CountedBuses waiting = Due.worksWithEnds(600);
    waiting.set(3, 10);
    waiting.book(0, 0, 9);
    Due.due("nobody has a promise", waiting.passDay(), 0);
    dueOfTotals("nobody has a promise", waiting, 1, 0, 0, 1, 0, 0);
    Due.due("nobody has a promise", waiting.bus(0, 0, 5), 0);

    CountedBuses late = Due.worksWithEnds(600);
    late.book(0, 0, 9);
    late.book(0, 0, 3);
    late.set(3, 14);
    Due.due("all are late", late.passDay(), 2);
    dueOfTotals("all are late", late, 1, 0, 2, 0, 0, 35 + 17);
    Due.due("all are late", late.bus(0, 0, 5), 0);
    late.set(3, 15);
    Due.due("one is not", late.passDay(), 1);
    dueOfTotals("one is not", late, 2, 1, 3, 0, 26, 35 + 17 + 35);

    Due.due("a day of new works", new CountedBuses().passDay(), 0);
  }

  private static void whoWaitsWalks() {
    Due.sentence("Workers who wait walk.");
    CountedBuses x = Due.worksWithEnds(600);
    x.set(1, 1);
    x.book(0, 0, 1);
    x.book(0, 0, 9);
    x.book(0, 1, 9);
    for (int day = 1; day <= 3; day++) {
      Due.due("taxis", x.passDay(), 0);
      due("walks", x, WALKED, 0, day, 0);
      due("rides", x, BY_BUS, day, 0, day);
      due("taxis", x, BY_TAXI, 0, 0, 0);
      Due.due("walks so far", x.count(8), day);
    }
    x.takeBack(0);
    Due.due("a day with the seat", x.passDay(), 0);
    Due.due("walks stay told", x.worker(1, WALKED), 3);
    Due.due("rides", x.worker(1, BY_BUS), 1);
    Due.due("walks so far", x.count(8), 3);
  }

  private static void costOfABus() {
    Due.sentence("A bus that goes costs 20, and 2 for each stretch to its farthest rider.");
    for (int stop = 1; stop <= 9; stop++) {
      CountedBuses x = Due.worksWithEnds(600, 700);
      x.book(0, 0, stop);
      x.book(0, 0, 1);
      Due.due("to the stop " + stop, x.bus(0, 0, 5), 20 + 2 * stop);
      x.passDay();
      Due.due("to the stop " + stop, x.count(9), 20 + 2 * stop);
      x.book(1, 1, stop);
      x.book(0, 1, stop);
      x.passDay();
      Due.due("three buses", x.count(9), 4 * (20 + 2 * stop));
    }
    CountedBuses both = Due.worksWithEnds(600, 610);
    both.book(0, 0, 3);
    both.book(1, 0, 7);
    both.passDay();
    Due.due("two buses", both.count(9), 26 + 34);
    both.merge(0, 0, 1);
    Due.due("one bus", both.bus(0, 0, 5), 34);
    both.passDay();
    Due.due("one bus goes once", both.count(9), 26 + 34 + 34);
  }

  private static void farthestOfThoseWhoRide() {
    Due.sentence("2 for each stretch to its farthest rider");
    CountedBuses x = Due.worksWithEnds(600);
    x.book(0, 0, 9);
    x.book(0, 0, 4);
    x.set(3, 20);
    x.book(0, 0, 5); // waits: late
    Due.due("the farthest with a promise", x.bus(0, 0, 4), 9);
    Due.due("the farthest who rides", x.bus(0, 0, 5), 28);
    Due.due("the one of the stop 9", x.passDay(), 1);
    Due.due("the farthest who rides", x.count(9), 28);
  }

  private static void costOfATaxi() {
    Due.sentence("A taxi costs 8, and 3 for each stretch.");
    for (int stop = 1; stop <= 9; stop++) {
      CountedBuses x = Due.worksWithEnds(600);
      x.set(3, 300);
      x.book(0, 0, stop);
      x.book(0, 0, stop);
      x.set(1, 1);
      Due.due("one taxi", x.passDay(), 1);
      Due.due("to the stop " + stop, x.count(10), 8 + 3 * stop);
      x.set(0, 20);
      x.set(3, 10);
      Due.due("two taxis", x.passDay(), 2);
      Due.due("to the stop " + stop, x.count(10), 3 * (8 + 3 * stop));
      Due.due("taxis", x.count(7), 3);
    }
  }

  private static void bookingsStay() {
    Due.sentence("Bookings stay for the next day.");
    CountedBuses x = Due.worksWithEnds(600, 610);
    x.set(1, 2);
    x.merge(1, 0, 1);
    for (int w = 0; w < 5; w++) {
      x.book(w % 2, w % 2, 1 + w);
    }
    String before = "";
    for (int day = 0; day < 4; day++) {
      StringBuilder told = new StringBuilder();
      for (int w = 0; w < 5; w++) {
        for (int what = 0; what <= 5; what++) {
          told.append(x.worker(w, what)).append(' ');
        }
      }
      told.append(x.count(1)).append(x.count(2)).append(x.count(4)).append(x.count(15));
      Due.holds("the day before changed no booking", day == 0 || before.equals(told.toString()));
      before = told.toString();
      x.passDay();
      Due.due("days", x.count(5), day + 1);
    }
  }

  /** Each bus of ten shift ends and two lines goes once, whatever is merged, and nobody is brought home twice. */
  private static void eachBusOnce() {
    Due.sentence("for each bus by rising minutes of its start, of several by the number of its shift end (of merged ones the"
        + " later one; of the same minute the greater number is the later one), of these by line");
    CountedBuses x = Due.worksWithEnds(600, 600, 610, 590, 1439, 0, 10, 600, 700, 690);
    for (int w = 0; w < 20; w++) {
      x.book(w / 2, w % 2, 9);
    }
    x.passDay();
    dueOfTotals("twenty buses", x, 1, 20, 0, 0, 20 * 38, 0);
    x.merge(0, 0, 1);
    x.merge(0, 3, 2);
    x.merge(1, 7, 1);
    x.merge(1, 8, 9);
    x.merge(1, 6, 5);
    x.passDay();
    dueOfTotals("fifteen buses", x, 2, 40, 0, 0, 35 * 38, 0);
    x.set(1, 1);
    Due.due("one of each pair goes by taxi", x.passDay(), 5);
    dueOfTotals("fifteen buses", x, 3, 55, 5, 0, 50 * 38, 5 * 35);
    for (int w = 0; w < 20; w++) {
      Due.due("days of worker " + w, x.worker(w, BY_BUS) + x.worker(w, BY_TAXI), 3);
    }
  }

  /** Who takes the place of a booking that was taken back has not ridden yet. */
  private static void newWorkersHaveNotRidden() {
    Due.sentence("6 for how often the worker rode home by bus, 7 for how often by taxi, 8 for how often the worker walked");
    CountedBuses x = Due.worksWithEnds(600);
    for (int w = 0; w < 30; w++) {
      x.book(0, 0, 9);
    }
    x.set(1, 3);
    x.passDay(); // 0 to 2 by bus, 3 to 5 by taxi, the others walk
    x.passDay();
    due("after two days", x, BY_BUS, 2, 2, 2, 0, 0, 0, 0);
    due("after two days", x, BY_TAXI, 0, 0, 0, 2, 2, 2, 0);
    due("after two days", x, WALKED, 0, 0, 0, 0, 0, 0, 2);
    for (int w = 0; w < 30; w += 2) {
      x.takeBack(w);
    }
    for (int w = 30; w < 45; w++) {
      Due.due("book", x.book(0, 0, 9), w);
      for (int how = BY_BUS; how <= WALKED; how++) {
        Due.due("worker(" + w + ", " + how + ")", x.worker(w, how), 0);
      }
    }
    Due.due("who stays has ridden", x.worker(1, BY_BUS), 2);
    Due.due("who stays has ridden", x.worker(3, BY_TAXI), 2);
    Due.due("who stays has walked", x.worker(7, WALKED), 2);
  }

  private static void changingTheEndKeepsTheRides() {
    Due.sentence("6 for how often the worker rode home by bus, 7 for how often by taxi, 8 for how often the worker walked");
    CountedBuses x = Due.worksWithEnds(600, 700);
    x.book(0, 0, 9);
    x.passDay();
    x.set(3, 10);
    x.passDay();
    Due.due("stay", x.stay(0, 1), 0);
    x.passDay();
    for (int how = BY_BUS; how <= WALKED; how++) {
      Due.due("worker(0, " + how + ")", x.worker(0, how), 1);
    }
  }

  private static void totalsAreOfAllDays() {
    Due.sentence("5 for days so far, 6 for rides by bus so far, 7 for those by taxi, 8 for walks so far, 9 for what buses cost"
        + " so far, 10 for what taxis cost so far");
    CountedBuses x = Due.worksWithEnds(600);
    x.book(0, 0, 2);
    x.book(0, 0, 2);
    x.set(1, 1);
    x.book(0, 0, 2);
    for (int day = 1; day <= 100; day++) {
      Due.due("taxis of the day alone", x.passDay(), 1);
    }
    dueOfTotals("a hundred days", x, 100, 100, 100, 100, 2400, 1400);
    x.takeBack(2);
    x.takeBack(1);
    x.takeBack(0);
    dueOfTotals("who leaves takes nothing away", x, 100, 100, 100, 100, 2400, 1400);
    x.passDay();
    dueOfTotals("a day without anybody", x, 101, 100, 100, 100, 2400, 1400);
  }

  // -- sentences without a boundary

  private static void allWithPromisesRide() {
    Due.sentence("all riders with promises ride home, if they still can");
    CountedBuses x = Due.worksWithEnds(600, 610, 1439);
    x.merge(0, 0, 1);
    for (int w = 0; w < 30; w++) {
      x.book(w % 3, w / 3 % 2, 1 + w % 9);
    }
    int riders = x.count(2);
    Due.due("riders of five buses", riders, 4 * 5 + 6);
    for (int day = 1; day <= 3; day++) {
      Due.due("passDay", x.passDay(), 0);
      Due.due("rides by bus", x.count(6), day * riders);
      Due.due("walks", x.count(8), day * (30 - riders));
    }
    for (int w = 0; w < 30; w++) {
      Due.due("rides of worker " + w, x.worker(w, BY_BUS), 3 * x.worker(w, 3));
    }
  }

  private static void whenADayPasses() {
    Due.sentence("When a day passes, for each bus");
    CountedBuses x = Due.worksWithEnds(600);
    x.book(0, 0, 5);
    x.book(0, 1, 4);
    x.keep();
    x.addEnd(700);
    x.set(2, 40);
    x.merge(0, 0, 1);
    x.restore();
    x.undo();
    dueOfTotals("nobody has ridden before a day passed", x, 0, 0, 0, 0, 0, 0);
    x.passDay();
    dueOfTotals("one day", x, 1, 2, 0, 0, 30 + 28, 0);
  }

  public static void main(String[] args) {
    fartherStopsFirst();
    ofSeveralByNumber();
    ofBothShiftEndsAlike();
    fewerThanTheSeats();
    fullBeforeTheStop();
    reachedInTime();
    whoIsLateTakesNoSeat();
    nobodyRides();
    whoWaitsWalks();
    costOfABus();
    farthestOfThoseWhoRide();
    costOfATaxi();
    bookingsStay();
    eachBusOnce();
    newWorkersHaveNotRidden();
    changingTheEndKeepsTheRides();
    totalsAreOfAllDays();
    allWithPromisesRide();
    whenADayPasses();
    Due.finish();
  }
}
