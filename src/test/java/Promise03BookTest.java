/** Promise 3: book. */
public final class Promise03BookTest {
  private static void promisesAndWaits() {
    CountedBuses x = Due.worksWithEnds(600, 700);
    x.set(1, 2);
    Due.due("book", x.book(0, 0, 9), 0);
    Due.due("book", x.book(0, 0, 1), 1);
    Due.due("book in a full bus", x.book(0, 0, 1), 2);
    Due.due("book on the other line", x.book(0, 1, 9), 3);
    Due.due("book at the other end", x.book(1, 0, 4), 4);
    int[] promised = {1, 1, 0, 1, 1};
    for (int w = 0; w < 5; w++) {
      Due.due("worker(" + w + ", 3)", x.worker(w, 3), promised[w]);
    }
    Due.due("count(15)", x.count(15), 5);
    Due.due("it is an act", x.count(16), 4);
  }

  private static void lateOnesWait() {
    CountedBuses x = Due.worksWithEnds(600);
    x.set(3, 30);
    x.book(0, 0, 6);
    x.book(0, 0, 7);
    Due.due("just in time", x.worker(0, 3), 1);
    Due.due("too late", x.worker(1, 3), 0);
  }

  private static void doesNotLookAtOthers() {
    CountedBuses x = Due.worksWithEnds(600);
    x.set(2, 120);
    x.set(3, 10);
    x.book(0, 0, 3);
    x.book(0, 0, 2);
    Due.due("who is late waits", x.worker(0, 3), 0);
    Due.due("who is not has a promise", x.worker(1, 3), 1);
    Due.due("count(3)", x.count(3), 1);
  }

  private static void errors() {
    CountedBuses x = Due.worksWithEnds(600);
    String before = Due.allOf(x);
    int[][] unknown = {{-1, 0, 1}, {1, 0, 1}, {10, 0, 1}, {0, -1, 1}, {0, 2, 1}, {0, 0, 0}, {0, 0, 10},
        {Integer.MIN_VALUE, 0, 1}, {0, Integer.MAX_VALUE, 1}, {0, 0, Integer.MIN_VALUE}};
    for (int[] a : unknown) {
      Due.due("book(" + a[0] + ", " + a[1] + ", " + a[2] + ")", x.book(a[0], a[1], a[2]), -1);
    }
    Due.holds("errors change nothing", before.equals(Due.allOf(x)));
    for (int w = 0; w < 30; w++) {
      Due.due("book", x.book(0, w % 2, 1 + w % 9), w);
    }
    Due.due("when 30 have bookings", x.book(0, 0, 1), -3);
    Due.due("what is unknown comes first", x.book(1, 0, 1), -1);
    x.takeBack(7);
    Due.due("a number is not given again", x.book(0, 0, 1), 30);
    Due.due("worker(7, 0)", x.worker(7, 0), -1);
    Due.due("full again", x.book(0, 0, 1), -3);
    Due.due("undo()", x.undo(), 3);
    Due.due("count(15) after undo()", x.count(15), 30);
  }

  public static void main(String[] args) {
    promisesAndWaits();
    lateOnesWait();
    doesNotLookAtOthers();
    errors();
    Due.finish();
  }
}
