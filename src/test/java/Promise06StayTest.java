/** Promise 6: stay. */
public final class Promise06StayTest {
  private static void changesTheEnd() {
    CountedBuses x = Due.worksWithEnds(600, 700);
    x.set(1, 1);
    x.book(0, 0, 3); // 0 is promised
    x.book(0, 0, 2); // 1 waits
    x.book(1, 0, 1); // 2 is promised
    Due.due("the seat is given up, the other bus is full", x.stay(0, 1), 0);
    Due.due("worker(0, 0)", x.worker(0, 0), 1);
    Due.due("worker(0, 3)", x.worker(0, 3), 0);
    Due.due("who waited has the seat now", x.worker(1, 3), 1);
    Due.due("the line stays", x.worker(0, 1), 0);
    Due.due("the stop stays", x.worker(0, 2), 3);
    x.takeBack(2);
    Due.due("worker(0, 3) after takeBack(2)", x.worker(0, 3), 1);
    Due.due("back, where it is full", x.stay(0, 0), 0);
    x.takeBack(1);
    Due.due("who waits may stay as well", x.stay(0, 1), 1);
    Due.due("it is an act", x.undo(), 3);
    Due.due("worker(0, 0) after undo()", x.worker(0, 0), 0);
  }

  /** Within a merged bus the worker gives the seat up and another one who waits is looked at first. */
  private static void losesTheSeatOfAMergedBus() {
    CountedBuses x = Due.worksWithEnds(600, 610);
    x.set(1, 1);
    x.merge(0, 0, 1);
    x.book(0, 0, 3); // 0 is promised
    x.book(0, 0, 4); // 1 waits
    Due.due("stay(0, 1)", x.stay(0, 1), 0);
    Due.due("worker(1, 3)", x.worker(1, 3), 1);

    CountedBuses y = Due.worksWithEnds(600, 610);
    y.set(1, 1);
    y.merge(0, 0, 1);
    y.book(1, 0, 3); // 0 is promised
    y.book(1, 0, 1); // 1 waits
    Due.due("the earlier end is looked at first", y.stay(0, 0), 1);
  }

  private static void rideCountsStay() {
    CountedBuses x = Due.worksWithEnds(600, 700);
    x.book(0, 0, 3);
    x.passDay();
    x.stay(0, 1);
    Due.due("worker(0, 6)", x.worker(0, 6), 1);
  }

  private static void errors() {
    CountedBuses x = Due.worksWithEnds(600, 700);
    x.book(0, 0, 3);
    String before = Due.allOf(x);
    int[][] unknown = {{-1, 0}, {1, 0}, {0, 2}, {0, -1}, {0, 10}, {Integer.MAX_VALUE, 1}, {0, Integer.MIN_VALUE}, {-5, -5}};
    for (int[] a : unknown) {
      Due.due("stay(" + a[0] + ", " + a[1] + ")", x.stay(a[0], a[1]), -1);
    }
    Due.due("it is so already", x.stay(0, 0), -5);
    Due.holds("errors and NONE change nothing", before.equals(Due.allOf(x)));
    x.takeBack(0);
    Due.due("who has no booking any more", x.stay(0, 1), -1);
    Due.due("not even as it is", x.stay(0, 0), -1);
  }

  private static void changesTheEndAlone() {
    Due.promise(6, "`int stay(int worker, int end)`: Changes the shift end of a worker");
    CountedBuses x = Due.worksWithEnds(600, 700, 650);
    x.book(0, 1, 4);
    x.book(0, 1, 4);
    x.passDay();
    int[] ends = {1, 2, 0, 2, 1};
    for (int end : ends) {
      Due.due("stay(0, " + end + ")", x.stay(0, end), 1);
      int[] due = {end, 1, 4, 1, 20, 0, 1, 0, 0};
      for (int what = 0; what < due.length; what++) {
        Due.due("worker(0, " + what + ")", x.worker(0, what), due[what]);
      }
      Due.due("the bus of the shift end", x.taken(1, end, 4), end == 0 ? 2 : 1);
      Due.due("the other worker", x.worker(1, 0), 0);
    }
    Due.due("workers with bookings", x.count(1), 2);
    Due.due("bookings so far", x.count(15), 2);
  }

  private static void isAnAct() {
    Due.promise(6, "This is an act.");
    Due.isAnAct("stay", x -> {
      x.addEnd(600);
      x.addEnd(700);
      x.book(0, 0, 1);
    }, x -> x.stay(0, 1));
    Due.isAnAct("stay of one who waits then", x -> {
      x.addEnd(600);
      x.addEnd(700);
      x.set(1, 1);
      x.book(0, 0, 1);
      x.book(1, 0, 1);
    }, x -> x.stay(0, 1));
  }

  private static void whoStaysAndWhere() {
    CountedBuses x = Due.worksWithEnds(600, 700, 800);
    for (int w = 0; w < 3; w++) {
      x.book(w, 0, 1);
    }
    Due.promise(6, "- `worker`: a worker with a booking");
    Due.each("stay of the worker", Due.NOBODY, worker -> x.stay(worker, 0), -1);
    Due.promise(6, "- `end`: a shift end");
    Due.each("stay to the shift end", Due.NOBODY, end -> x.stay(0, end), -1);
    for (int w = 0; w < 3; w++) {
      for (int end = 0; end < 3; end++) {
        Due.due("stay(" + w + ", " + end + ")", x.stay(w, end), w == 0 && end == 0 ? -5 : 1);
        Due.due("worker(" + w + ", 0)", x.worker(w, 0), end);
      }
    }
    x.takeBack(1);
    Due.due("stay of one who was taken back", x.stay(1, 0), -1);
  }

  private static void returnsWhetherItIsPromised() {
    Due.promise(6, "Returns 1 if it is promised then, otherwise 0; UNKNOWN (worker or end); NONE if it is so already.");
    CountedBuses x = Due.worksWithEnds(600, 700);
    x.set(1, 1);
    x.book(0, 0, 2); // 0 has the seat
    x.book(1, 0, 2); // 1 has the seat
    x.book(1, 0, 1); // 2 waits
    Due.due("to a full bus", x.stay(0, 1), 0);
    Due.due("worker(0, 3)", x.worker(0, 3), 0);
    Due.due("to an empty bus", x.stay(2, 0), 1);
    Due.due("worker(2, 3)", x.worker(2, 3), 1);
    Due.due("so already, with a seat", x.stay(2, 0), -5);
    Due.due("so already, without one", x.stay(0, 1), -5);
    Due.due("no worker, so already", x.stay(3, 1), -1);
    Due.due("no end", x.stay(0, 2), -1);
    Due.due("from a seat to one that waits for nobody", x.stay(1, 0), 0);
    Due.due("who waited has the seat then", x.worker(0, 3), 1);
  }

  public static void main(String[] args) {
    changesTheEnd();
    losesTheSeatOfAMergedBus();
    rideCountsStay();
    errors();
    changesTheEndAlone();
    isAnAct();
    whoStaysAndWhere();
    returnsWhetherItIsPromised();
    Due.finish();
  }
}
