/** Promise 5: takeBack. */
public final class Promise05TakeBackTest {
  /** With one seat, each taking back lets the next one in: by minute, end, line, stop, number. */
  private static void orderOfThoseWhoWait() {
    CountedBuses x = Due.worksWithEnds(620, 600, 600);
    x.set(1, 1);
    x.set(2, 120);
    x.merge(0, 0, 1);
    x.book(0, 0, 9); // 0 is promised
    x.book(0, 0, 1); // 1 waits, of the later end
    x.book(1, 0, 5); // 2 waits, of the earlier end
    x.book(1, 0, 4); // 3 waits, has a nearer stop
    x.book(1, 0, 4); // 4 waits, has the same stop and a greater number
    Due.due("takeBack(0)", x.takeBack(0), 3);
    Due.due("the earlier end, the nearer stop, the lower number", x.worker(3, 3), 1);
    Due.due("takeBack(3)", x.takeBack(3), 2);
    Due.due("worker(4, 3)", x.worker(4, 3), 1);
    Due.due("takeBack(4)", x.takeBack(4), 1);
    Due.due("worker(2, 3)", x.worker(2, 3), 1);
    Due.due("takeBack(2)", x.takeBack(2), 0);
    Due.due("worker(1, 3)", x.worker(1, 3), 1);

    CountedBuses y = Due.worksWithEnds(600, 600);
    y.set(1, 1);
    y.merge(0, 0, 1);
    y.book(1, 0, 1); // 0 is promised
    y.book(1, 0, 1); // 1 waits, of the end with the greater number
    y.book(0, 0, 9); // 2 waits, of the same minute and the lower number
    Due.due("takeBack(0)", y.takeBack(0), 1);
    Due.due("the lower number of the end comes ahead of the stop", y.worker(2, 3), 1);
  }

  private static void whoWaitsAndGoes() {
    CountedBuses x = Due.worksWithEnds(600);
    x.set(1, 1);
    x.book(0, 0, 1);
    x.book(0, 0, 2);
    Due.due("who waits is taken back", x.takeBack(1), 0);
    Due.due("the promise stays", x.worker(0, 3), 1);
    Due.due("takeBack of the only one", x.takeBack(0), 0);
    Due.due("count(1)", x.count(1), 0);
    Due.due("count(15) stays", x.count(15), 2);
    Due.due("it is an act", x.undo(), 3);
    Due.due("worker(0, 2) is back", x.worker(0, 2), 1);
  }

  private static void lateOnesGoOnWaiting() {
    CountedBuses x = Due.worksWithEnds(600);
    x.set(1, 1);
    x.set(3, 20);
    x.book(0, 0, 4); // 0 is promised
    x.book(0, 0, 5); // 1 waits: full and late
    x.book(0, 1, 5); // 2 waits: late
    Due.due("takeBack(0)", x.takeBack(0), 2);
  }

  private static void totalsStay() {
    CountedBuses x = Due.worksWithEnds(600);
    x.book(0, 0, 4);
    x.passDay();
    x.takeBack(0);
    Due.due("rides so far stay", x.count(6), 1);
    Due.due("costs so far stay", x.count(9), 28);
    x.book(0, 0, 4);
    Due.due("a new worker has ridden by no bus", x.worker(1, 6), 0);
    x.book(0, 0, 9);
    x.set(1, 1);
    x.book(0, 0, 1); // waits
    x.passDay(); // 1 goes by taxi, 2 by bus, 3 walks
    Due.due("worker(1, 7)", x.worker(1, 7), 1);
    Due.due("worker(3, 8)", x.worker(3, 8), 1);
    x.takeBack(1);
    x.takeBack(2);
    x.takeBack(3);
    for (int w = 4; w < 7; w++) {
      x.book(0, 0, 1);
      for (int what = 6; what <= 8; what++) {
        Due.due("a new worker's worker(" + w + ", " + what + ")", x.worker(w, what), 0);
      }
    }
    Due.due("taxis so far stay", x.count(7), 1);
    Due.due("walks so far stay", x.count(8), 1);
  }

  /** Who is looked at first and goes on waiting does not keep the next ones from their seats. */
  private static void allWhoWaitAreLookedAt() {
    CountedBuses x = Due.worksWithEnds(600, 700);
    x.set(1, 1);
    x.book(0, 0, 1); // 0 is promised
    x.book(0, 0, 1); // 1 waits where it stays full
    x.book(1, 0, 1); // 2 is promised
    x.book(1, 0, 1); // 3 waits
    Due.due("takeBack(2)", x.takeBack(2), 1);
    Due.due("worker(1, 3)", x.worker(1, 3), 0);
    Due.due("worker(3, 3)", x.worker(3, 3), 1);
  }

  private static void errors() {
    CountedBuses x = Due.worksWithEnds(600);
    x.book(0, 0, 1);
    String before = Due.allOf(x);
    int[] unknown = {-1, 1, 30, -5, Integer.MIN_VALUE, Integer.MAX_VALUE};
    for (int w : unknown) {
      Due.due("takeBack(" + w + ")", x.takeBack(w), -1);
    }
    Due.holds("errors change nothing", before.equals(Due.allOf(x)));
    x.takeBack(0);
    Due.due("taken back twice", x.takeBack(0), -1);
  }

  private static void takesTheBookingBack() {
    Due.promise(5, "`int takeBack(int worker)`: Takes a booking back.");
    CountedBuses x = Due.worksWithEnds(600, 700);
    x.book(0, 0, 3);
    x.book(0, 0, 5);
    x.book(1, 1, 9);
    Due.due("takeBack(1)", x.takeBack(1), 0);
    for (int what = 0; what <= 8; what++) {
      Due.due("worker(1, " + what + ")", x.worker(1, what), -1);
    }
    Due.due("workers with bookings", x.count(1), 2);
    Due.due("the seat is free", x.taken(0, 0, 3), 1);
    Due.due("and no farther than to the other one's stop", x.bus(0, 0, 4), 3);
    Due.due("the others stay", x.worker(0, 2), 3);
    Due.due("the others stay", x.worker(2, 2), 9);
    Due.due("passDay", x.passDay(), 0);
    Due.due("who has no booking does not ride", x.count(6), 2);
  }

  private static void isAnAct() {
    Due.promise(5, "This is an act.");
    Due.isAnAct("takeBack", x -> {
      x.addEnd(600);
      x.book(0, 0, 1);
    }, x -> x.takeBack(0));
    Due.isAnAct("takeBack that lets another one in", x -> {
      x.addEnd(600);
      x.set(1, 1);
      x.book(0, 0, 1);
      x.book(0, 0, 2);
      x.passDay();
    }, x -> x.takeBack(0));
  }

  private static void whoIsTakenBack() {
    Due.promise(5, "- `worker`: a worker with a booking");
    CountedBuses x = Due.worksWithEnds(600);
    Due.due("nobody has a booking yet", x.takeBack(0), -1);
    for (int w = 0; w < 3; w++) {
      x.book(0, w % 2, 1 + w);
    }
    Due.each("takeBack of the worker", Due.NOBODY, x::takeBack, -1);
    Due.due("workers with bookings", x.count(1), 3);
    int[] order = {1, 2, 0};
    for (int w : order) {
      Due.due("takeBack(" + w + ")", x.takeBack(w), 0);
      Due.due("takeBack(" + w + ") again", x.takeBack(w), -1);
    }
    Due.due("workers with bookings", x.count(1), 0);
  }

  private static void returnsHowManyWait() {
    Due.promise(5, "Returns how many workers wait then; UNKNOWN.");
    CountedBuses x = Due.worksWithEnds(600, 700);
    x.set(1, 1);
    for (int w = 0; w < 6; w++) {
      x.book(w / 3, 0, 1); // 0 and 3 have seats
    }
    Due.due("who waits is taken back", x.takeBack(1), 3);
    Due.due("who has a seat, and one is let in", x.takeBack(0), 2);
    Due.due("who has a seat, and nobody waits for it", x.takeBack(2), 2);
    Due.due("of the other bus", x.takeBack(3), 1);
    Due.due("nobody", x.takeBack(3), -1);
    Due.due("the last one who waits", x.takeBack(5), 0);
    Due.due("the last one", x.takeBack(4), 0);
    Due.due("nobody", x.takeBack(4), -1);
  }

  public static void main(String[] args) {
    orderOfThoseWhoWait();
    whoWaitsAndGoes();
    lateOnesGoOnWaiting();
    totalsStay();
    allWhoWaitAreLookedAt();
    errors();
    takesTheBookingBack();
    isAnAct();
    whoIsTakenBack();
    returnsHowManyWait();
    Due.finish();
  }
}
