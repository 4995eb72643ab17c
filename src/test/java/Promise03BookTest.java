/** Promise 3: book. */
public final class Promise03BookTest {
  private static void promisesAndWaits() {
    CountedBuses x = Due.worksWithEnds(600, 700);
    x.set(1, 2);
    Due.due("book", x.book(0, 0, 9), 0);
    Due.due("book", x.book(0, 0, 1), 1);
    Due.due("book in a full bus", x.book(0, 0, 1), 2);
    Due.due("book on the other line", x.book(0, 1, 9), 3);
    Due.due("book at the other end", x.book(1, 0, 4), 4);
    int[] promised = {1, 1, 0, 1, 1};
    for (int w = 0; w < 5; w++) {
      Due.due("worker(" + w + ", 3)", x.worker(w, 3), promised[w]);
    }
    Due.due("count(15)", x.count(15), 5);
    Due.due("it is an act", x.count(16), 4);
  }

  private static void lateOnesWait() {
    CountedBuses x = Due.worksWithEnds(600);
    x.set(3, 30);
    x.book(0, 0, 6);
    x.book(0, 0, 7);
    Due.due("just in time", x.worker(0, 3), 1);
    Due.due("too late", x.worker(1, 3), 0);
  }

  private static void doesNotLookAtOthers() {
    CountedBuses x = Due.worksWithEnds(600);
    x.set(2, 120);
    x.set(3, 10);
    x.book(0, 0, 3);
    x.book(0, 0, 2);
    Due.due("who is late waits", x.worker(0, 3), 0);
    Due.due("who is not has a promise", x.worker(1, 3), 1);
    Due.due("count(3)", x.count(3), 1);
  }

  private static void errors() {
    CountedBuses x = Due.worksWithEnds(600);
    String before = Due.allOf(x);
    int[][] unknown = {{-1, 0, 1}, {1, 0, 1}, {10, 0, 1}, {0, -1, 1}, {0, 2, 1}, {0, 0, 0}, {0, 0, 10},
        {Integer.MIN_VALUE, 0, 1}, {0, Integer.MAX_VALUE, 1}, {0, 0, Integer.MIN_VALUE}};
    for (int[] a : unknown) {
      Due.due("book(" + a[0] + ", " + a[1] + ", " + a[2] + ")", x.book(a[0], a[1], a[2]), -1);
    }
    Due.holds("errors change nothing", before.equals(Due.allOf(x)));
    for (int w = 0; w < 30; w++) {
      Due.due("book", x.book(0, w % 2, 1 + w % 9), w);
    }
    Due.due("when 30 have bookings", x.book(0, 0, 1), -3);
    Due.due("what is unknown comes first", x.book(1, 0, 1), -1);
    x.takeBack(7);
    Due.due("a number is not given again", x.book(0, 0, 1), 30);
    Due.due("worker(7, 0)", x.worker(7, 0), -1);
    Due.due("full again", x.book(0, 0, 1), -3);
    Due.due("undo()", x.undo(), 3);
    Due.due("count(15) after undo()", x.count(15), 30);
  }

  private static void booksASeat() {
    Due.promise(3, "`int book(int end, int line, int stop)`: Books a seat for a worker.");
    CountedBuses x = Due.worksWithEnds(600, 700);
    Due.due("book", x.book(1, 0, 7), 0);
    Due.due("book", x.book(0, 1, 2), 1);
    int[][] due = {{1, 0, 7, 1, 35, 0, 0, 0, 0}, {0, 1, 2, 1, 10, 0, 0, 0, 0}};
    for (int w = 0; w < 2; w++) {
      for (int what = 0; what < due[w].length; what++) {
        Due.due("worker(" + w + ", " + what + ")", x.worker(w, what), due[w][what]);
      }
    }
    Due.due("the seat as far as the stop", x.taken(0, 1, 7), 1);
    Due.due("and no farther", x.taken(0, 1, 8), 0);
    Due.due("workers with bookings", x.count(1), 2);
    Due.due("bookings so far", x.count(15), 2);
  }

  private static void isPromisedItOrWaits() {
    Due.promise(3, "The worker is promised it, or waits.");
    CountedBuses x = Due.worksWithEnds(600);
    x.set(1, 2);
    x.set(3, 40);
    int[] stops = {9, 8, 1, 9, 3};
    int[] promised = {0, 1, 1, 0, 0};
    int waiting = 0;
    for (int w = 0; w < stops.length; w++) {
      Due.due("why ahead of " + w, x.why(0, 0, stops[w]) == 0 ? 1 : 0, promised[w]);
      x.book(0, 0, stops[w]);
      Due.due("worker(" + w + ", 3)", x.worker(w, 3), promised[w]);
      waiting += 1 - promised[w];
      Due.due("those who wait", x.count(3), waiting);
      Due.due("those with promises", x.count(2), w + 1 - waiting);
    }
  }

  private static void isAnAct() {
    Due.promise(3, "This is an act.");
    Due.isAnAct("book", x -> x.addEnd(600), x -> x.book(0, 0, 9));
    Due.isAnAct("book of one who waits", x -> {
      x.addEnd(600);
      x.set(3, 10);
    }, x -> x.book(0, 0, 9));
  }

  private static void whatIsBooked() {
    CountedBuses x = Due.worksWithEnds(600, 700, 800);
    Due.promise(3, "- `end`: a shift end");
    Due.each("book of the shift end", Due.NOBODY, end -> x.book(end, 0, 1), -1);
    Due.promise(3, "- `line`: 0 or 1");
    Due.each("book of the line", Due.NO_LINES, line -> x.book(0, line, 1), -1);
    Due.promise(3, "- `stop`: 1 to 9");
    Due.each("book of the stop", Due.NO_STOPS, stop -> x.book(0, 0, stop), -1);
    int worker = 0;
    for (int end = 0; end < 3; end++) {
      for (int line = 0; line < 2; line++) {
        for (int stop = 1; stop <= 9; stop++) {
          Due.due("book(" + end + ", " + line + ", " + stop + ")", x.book(end, line, stop), worker);
          int told = 100 * x.worker(worker, 0) + 10 * x.worker(worker, 1) + x.worker(worker, 2);
          Due.due("its shift end, line and stop", told, 100 * end + 10 * line + stop);
          x.takeBack(worker);
          worker++;
        }
      }
    }
  }

  private static void returnsTheNumberOfTheWorker() {
    Due.promise(3, "Returns the number of the worker; UNKNOWN (end, line or stop); FULL if 30 have bookings.");
    CountedBuses x = Due.worksWithEnds(600);
    for (int w = 0; w < 30; w++) {
      Due.due("UNKNOWN", x.book(1, 0, 1), -1);
      Due.due("book", x.book(0, 0, 9), w);
    }
    Due.due("no end, and full", x.book(1, 0, 1), -1);
    Due.due("no line, and full", x.book(0, 2, 1), -1);
    Due.due("no stop, and full", x.book(0, 0, 0), -1);
    Due.due("full", x.book(0, 1, 1), -3);
    x.takeBack(29);
    Due.due("room for one", x.book(0, 1, 1), 30);
    Due.due("full", x.book(0, 1, 1), -3);
  }

  public static void main(String[] args) {
    promisesAndWaits();
    lateOnesWait();
    doesNotLookAtOthers();
    errors();
    booksASeat();
    isPromisedItOrWaits();
    isAnAct();
    whatIsBooked();
    returnsTheNumberOfTheWorker();
    Due.finish();
  }
}
