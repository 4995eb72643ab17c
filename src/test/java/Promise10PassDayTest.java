/** Promise 10: passDay. */
public final class Promise10PassDayTest {
  private static void dueOfWorkers(CountedBuses x, int what, int... want) {
    for (int w = 0; w < want.length; w++) {
      Due.due("worker(" + w + ", " + what + ")", x.worker(w, what), want[w]);
    }
  }

  private static void dueOfCounts(CountedBuses x, int... want) {
    for (int i = 0; i < want.length; i++) {
      Due.due("count(" + (5 + i) + ")", x.count(5 + i), want[i]);
    }
  }

  private static void emptyDay() {
    CountedBuses x = new CountedBuses();
    Due.due("a day without shift ends", x.passDay(), 0);
    dueOfCounts(x, 1, 0, 0, 0, 0, 0);
    Due.due("it is an act", x.undo(), 0);
    dueOfCounts(x, 0, 0, 0, 0, 0, 0);
  }

  /** Three riders by farther stops first, of the same stop by number, but two seats by now. */
  private static void fewerSeatsByNow() {
    CountedBuses x = Due.worksWithEnds(600);
    x.book(0, 0, 3);
    x.book(0, 0, 7);
    x.book(0, 0, 3);
    x.book(0, 1, 9);
    x.set(1, 2);
    x.book(0, 0, 5); // waits
    Due.due("passDay()", x.passDay(), 1);
    dueOfWorkers(x, 6, 1, 1, 0, 1, 0);
    dueOfWorkers(x, 7, 0, 0, 1, 0, 0);
    dueOfWorkers(x, 8, 0, 0, 0, 0, 1);
    dueOfCounts(x, 1, 3, 1, 1, 34 + 38, 17);
    Due.due("bookings stay", x.count(1), 5);
    Due.due("promises stay", x.count(2), 4);
    Due.due("the next day", x.passDay(), 1);
    dueOfWorkers(x, 7, 0, 0, 2, 0, 0);
    dueOfCounts(x, 2, 6, 2, 2, 144, 34);
  }

  /** The farthest ones are late by now: they go by taxi and leave their seats to those behind them. */
  private static void lateByNow() {
    CountedBuses x = Due.worksWithEnds(600);
    x.book(0, 0, 9);
    x.book(0, 0, 8);
    x.book(0, 0, 2);
    x.set(1, 1);
    x.set(3, 10);
    Due.due("passDay()", x.passDay(), 2);
    dueOfWorkers(x, 6, 0, 0, 1);
    dueOfCounts(x, 1, 1, 2, 0, 24, 35 + 32);
  }

  private static void busThatDoesNotGo() {
    CountedBuses x = Due.worksWithEnds(600);
    x.book(0, 0, 3);
    x.set(3, 10);
    Due.due("bus(0, 0, 5)", x.bus(0, 0, 5), 0);
    Due.due("passDay()", x.passDay(), 1);
    dueOfCounts(x, 1, 0, 1, 0, 0, 17);
    CountedBuses y = Due.worksWithEnds(600);
    y.book(0, 0, 3);
    y.set(3, 15);
    Due.due("just in time", y.passDay(), 0);
    dueOfCounts(y, 1, 1, 0, 0, 26, 0);
  }

  private static void mergedBusGoesOnce() {
    CountedBuses x = Due.worksWithEnds(600, 620);
    x.book(0, 0, 4);
    x.book(1, 0, 2);
    x.merge(0, 0, 1);
    Due.due("passDay()", x.passDay(), 0);
    dueOfCounts(x, 1, 2, 0, 0, 28, 0);
    x.set(3, 30); // the one of the earlier end is late by now, the other one is not
    Due.due("passDay()", x.passDay(), 1);
    dueOfWorkers(x, 6, 1, 2);
    dueOfWorkers(x, 7, 1, 0);
    dueOfCounts(x, 2, 3, 1, 0, 28 + 24, 20);
    x.part(0, 0);
    Due.due("passDay()", x.passDay(), 0);
    dueOfCounts(x, 3, 5, 1, 0, 52 + 28 + 24, 20);
    CountedBuses y = Due.worksWithEnds(600, 600);
    y.book(0, 1, 1);
    y.merge(1, 1, 0);
    y.passDay();
    dueOfCounts(y, 1, 1, 0, 0, 22, 0);
  }

  /** Of a merged bus all share the seats, by farther stops, whatever the shift end. */
  private static void mergedBusShareSeats() {
    CountedBuses x = Due.worksWithEnds(600, 620);
    x.book(0, 0, 4);
    x.book(1, 0, 5);
    x.book(0, 0, 5);
    x.merge(0, 0, 1);
    x.set(1, 1);
    Due.due("passDay()", x.passDay(), 2);
    dueOfWorkers(x, 6, 0, 1, 0);
    dueOfCounts(x, 1, 1, 2, 0, 30, 20 + 23);
  }

  private static void doesNotLook() {
    CountedBuses x = Due.worksWithEnds(600);
    x.set(1, 1);
    x.book(0, 0, 9);
    x.book(0, 0, 1);
    x.passDay();
    Due.due("who waits goes on waiting", x.worker(1, 3), 0);
    Due.due("walks", x.worker(1, 8), 1);
  }

  private static void aDayPasses() {
    Due.promise(10, "`int passDay()`: Lets a day pass.");
    CountedBuses x = Due.worksWithEnds(600);
    x.set(3, 20);
    x.book(0, 0, 3);
    x.book(0, 0, 9); // waits
    for (int day = 1; day <= 10; day++) {
      Due.due("passDay", x.passDay(), 0);
      dueOfCounts(x, day, day, 0, day, 26 * day, 0);
      dueOfWorkers(x, 6, day, 0);
      dueOfWorkers(x, 8, 0, day);
    }
  }

  private static void isAnAct() {
    Due.promise(10, "This is an act.");
    Due.isAnAct("passDay of new works", x -> { }, CountedBuses::passDay);
    Due.isAnAct("passDay", x -> {
      x.addEnd(600);
      x.book(0, 0, 9);
      x.book(0, 0, 9);
      x.set(1, 1);
      x.book(0, 0, 9);
    }, CountedBuses::passDay);
  }

  private static void returnsHowManyRideByTaxi() {
    Due.promise(10, "Returns how many ride home by taxi.");
    CountedBuses x = Due.worksWithEnds(600, 600);
    x.set(1, 5);
    for (int w = 0; w < 20; w++) {
      x.book(w % 2, w / 2 % 2, 9);
    }
    int taxis = 0;
    for (int seats = 5; seats >= 1; seats--) {
      x.set(1, seats);
      Due.due("of four buses with five riders each", x.passDay(), 4 * (5 - seats));
      taxis += 4 * (5 - seats);
      Due.due("taxis so far", x.count(7), taxis);
    }
    x.set(0, 20);
    Due.due("all are late", x.passDay(), 20);
    x.takeBack(0);
    Due.due("who waits does not ride by taxi", x.book(0, 0, 9), 20);
    Due.due("all but one", x.passDay(), 19);
  }

  public static void main(String[] args) {
    emptyDay();
    fewerSeatsByNow();
    lateByNow();
    busThatDoesNotGo();
    mergedBusGoesOnce();
    mergedBusShareSeats();
    doesNotLook();
    aDayPasses();
    isAnAct();
    returnsHowManyRideByTaxi();
    Due.finish();
  }
}
