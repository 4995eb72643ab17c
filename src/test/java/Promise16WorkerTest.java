/** Promise 16: worker. */
public final class Promise16WorkerTest {
  private static void due(CountedBuses x, int worker, int... want) {
    for (int what = 0; what < want.length; what++) {
      Due.due("worker(" + worker + ", " + what + ")", x.worker(worker, what), want[what]);
    }
  }

  private static void allThatIsTold() {
    CountedBuses x = Due.worksWithEnds(600, 620);
    x.set(1, 2);
    x.book(0, 0, 3); // 0
    x.book(1, 0, 9); // 1
    x.book(0, 1, 4); // 2
    due(x, 0, 0, 0, 3, 1, 15, 0, 0, 0, 0);
    due(x, 1, 1, 0, 9, 1, 45, 0, 0, 0, 0);
    due(x, 2, 0, 1, 4, 1, 20, 0, 0, 0, 0);
    x.merge(0, 1, 0);
    x.book(0, 0, 2); // 3 waits
    due(x, 0, 0, 0, 3, 1, 35, 0, 0, 0, 0);
    due(x, 1, 1, 0, 9, 1, 45, 0, 0, 0, 0);
    due(x, 2, 0, 1, 4, 1, 20, 0, 0, 0, 0);
    due(x, 3, 0, 0, 2, 0, 30, 2, 0, 0, 0);
    x.passDay();
    x.set(1, 1);
    x.passDay();
    x.passDay();
    due(x, 0, 0, 0, 3, 1, 35, 2, 1, 2, 0);
    due(x, 1, 1, 0, 9, 1, 45, 2, 3, 0, 0);
    due(x, 3, 0, 0, 2, 0, 30, 2, 0, 0, 3);
  }

  private static void reasonsByTheOthers() {
    CountedBuses x = Due.worksWithEnds(600);
    x.set(1, 1);
    x.book(0, 0, 9);
    Due.due("the own seat does not count", x.worker(0, 5), 0);
    x.book(0, 0, 9);
    Due.due("that of another one does", x.worker(1, 5), 2);
    x.set(3, 44);
    Due.due("promised, but late by now", x.worker(0, 5), 3);
    Due.due("the full bus is asked first", x.worker(1, 5), 2);
    x.set(3, 45);
    Due.due("just in time", x.worker(0, 5), 0);
    CountedBuses y = Due.worksWithEnds(600);
    y.set(3, 44);
    y.book(0, 0, 9);
    Due.due("who waits is late", y.worker(0, 5), 3);
  }

  private static void errors() {
    CountedBuses x = Due.worksWithEnds(600);
    x.book(0, 0, 1);
    x.book(0, 0, 1);
    x.takeBack(0);
    int[] unknown = {-1, 0, 2, 30, Integer.MIN_VALUE, Integer.MAX_VALUE};
    String before = Due.allOf(x);
    for (int w : unknown) {
      Due.due("worker(" + w + ", 0)", x.worker(w, 0), -1);
      Due.due("worker(" + w + ", 9)", x.worker(w, 9), -1);
    }
    int[] bad = {-1, 9, Integer.MIN_VALUE, Integer.MAX_VALUE};
    for (int what : bad) {
      Due.due("worker(1, " + what + ")", x.worker(1, what), -2);
    }
    Due.holds("asking changes nothing", before.equals(Due.allOf(x)));
  }

  private static void whoIsAsked() {
    Due.promise(16, "`int worker(int worker, int what)`: - `worker`: a worker with a booking");
    CountedBuses x = Due.worksWithEnds(600);
    Due.due("nobody has a booking yet", x.worker(0, 0), -1);
    for (int w = 0; w < 3; w++) {
      x.book(0, 0, 7 + w);
    }
    Due.each("worker", Due.NOBODY, worker -> x.worker(worker, 2), -1);
    for (int w = 0; w < 3; w++) {
      Due.due("worker(" + w + ", 2)", x.worker(w, 2), 7 + w);
      x.takeBack(w);
      Due.due("worker(" + w + ", 2) after takeBack", x.worker(w, 2), -1);
    }
  }

  private static void whatIsAsked() {
    Due.promise(16, "- `what`: 0 for the shift end, 1 for the line, 2 for the stop");
    CountedBuses x = Due.worksWithEnds(600, 700, 800);
    for (int w = 0; w < 18; w++) {
      x.book(w % 3, w % 2, 1 + w % 9);
    }
    for (int w = 0; w < 18; w++) {
      Due.due("worker(" + w + ", 0)", x.worker(w, 0), w % 3);
      Due.due("worker(" + w + ", 1)", x.worker(w, 1), w % 2);
      Due.due("worker(" + w + ", 2)", x.worker(w, 2), 1 + w % 9);
    }
  }

  private static void returnsTheNumber() {
    Due.promise(16, "Returns the number; UNKNOWN; BAD_VALUE.");
    CountedBuses x = Due.worksWithEnds(600);
    x.book(0, 0, 4);
    for (int what = 0; what <= 8; what++) {
      Due.due("worker(0, " + what + ")", x.worker(0, what), new int[] {0, 0, 4, 1, 20, 0, 0, 0, 0}[what]);
    }
    int[] bad = {-1, 9, 256, 65536, Integer.MIN_VALUE, Integer.MAX_VALUE};
    Due.each("worker(0, what) with what at", bad, what -> x.worker(0, what), -2);
    Due.each("no worker, with what at", bad, what -> x.worker(1, what), -1);
  }

  public static void main(String[] args) {
    allThatIsTold();
    reasonsByTheOthers();
    errors();
    whoIsAsked();
    whatIsAsked();
    returnsTheNumber();
    Due.finish();
  }
}
