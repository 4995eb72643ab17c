/** Promise 6: stay. */
public final class Promise06StayTest {
  private static void changesTheEnd() {
    CountedBuses x = Due.worksWithEnds(600, 700);
    x.set(1, 1);
    x.book(0, 0, 3); // 0 is promised
    x.book(0, 0, 2); // 1 waits
    x.book(1, 0, 1); // 2 is promised
    Due.due("the seat is given up, the other bus is full", x.stay(0, 1), 0);
    Due.due("worker(0, 0)", x.worker(0, 0), 1);
    Due.due("worker(0, 3)", x.worker(0, 3), 0);
    Due.due("who waited has the seat now", x.worker(1, 3), 1);
    Due.due("the line stays", x.worker(0, 1), 0);
    Due.due("the stop stays", x.worker(0, 2), 3);
    x.takeBack(2);
    Due.due("worker(0, 3) after takeBack(2)", x.worker(0, 3), 1);
    Due.due("back, where it is full", x.stay(0, 0), 0);
    x.takeBack(1);
    Due.due("who waits may stay as well", x.stay(0, 1), 1);
    Due.due("it is an act", x.undo(), 3);
    Due.due("worker(0, 0) after undo()", x.worker(0, 0), 0);
  }

  /** Within a merged bus the worker gives the seat up and another one who waits is looked at first. */
  private static void losesTheSeatOfAMergedBus() {
    CountedBuses x = Due.worksWithEnds(600, 610);
    x.set(1, 1);
    x.merge(0, 0, 1);
    x.book(0, 0, 3); // 0 is promised
    x.book(0, 0, 4); // 1 waits
    Due.due("stay(0, 1)", x.stay(0, 1), 0);
    Due.due("worker(1, 3)", x.worker(1, 3), 1);

    CountedBuses y = Due.worksWithEnds(600, 610);
    y.set(1, 1);
    y.merge(0, 0, 1);
    y.book(1, 0, 3); // 0 is promised
    y.book(1, 0, 1); // 1 waits
    Due.due("the earlier end is looked at first", y.stay(0, 0), 1);
  }

  private static void rideCountsStay() {
    CountedBuses x = Due.worksWithEnds(600, 700);
    x.book(0, 0, 3);
    x.passDay();
    x.stay(0, 1);
    Due.due("worker(0, 6)", x.worker(0, 6), 1);
  }

  private static void errors() {
    CountedBuses x = Due.worksWithEnds(600, 700);
    x.book(0, 0, 3);
    String before = Due.allOf(x);
    int[][] unknown = {{-1, 0}, {1, 0}, {0, 2}, {0, -1}, {0, 10}, {Integer.MAX_VALUE, 1}, {0, Integer.MIN_VALUE}, {-5, -5}};
    for (int[] a : unknown) {
      Due.due("stay(" + a[0] + ", " + a[1] + ")", x.stay(a[0], a[1]), -1);
    }
    Due.due("it is so already", x.stay(0, 0), -5);
    Due.holds("errors and NONE change nothing", before.equals(Due.allOf(x)));
    x.takeBack(0);
    Due.due("who has no booking any more", x.stay(0, 1), -1);
    Due.due("not even as it is", x.stay(0, 0), -1);
  }

  public static void main(String[] args) {
    changesTheEnd();
    losesTheSeatOfAMergedBus();
    rideCountsStay();
    errors();
    Due.finish();
  }
}
