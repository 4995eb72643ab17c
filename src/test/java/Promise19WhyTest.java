/** Promise 19: why. */
public final class Promise19WhyTest {
  private static void whyItWouldNotBePromised() {
    Due.promise(19, "`int why(int line, int end, int stop)`: Tells why a seat would not be promised now.");
    CountedBuses x = Due.worksWithEnds(600, 620);
    x.set(1, 2);
    x.set(3, 30);
    x.merge(1, 0, 1);
    x.book(1, 0, 6);
    for (int full = 0; full < 2; full++) {
      for (int line = 0; line < 2; line++) {
        for (int end = 0; end < 2; end++) {
          for (int stop = 1; stop <= 9; stop++) {
            int why = x.why(line, end, stop);
            int worker = x.book(end, line, stop);
            Due.due("why(" + line + ", " + end + ", " + stop + ") as book does", why == 0 ? 1 : 0, x.worker(worker, 3));
            Due.due("and as worker tells", x.worker(worker, 5), why);
            x.undo();
          }
        }
      }
      x.book(1, 0, 1);
      x.book(1, 1, 1);
    }
  }

  private static void whatIsAsked() {
    CountedBuses x = Due.worksWithEnds(600, 700, 800);
    Due.promise(19, "- `line`: 0 or 1 - `end`: any number");
    Due.each("why of the line", Due.NO_LINES, line -> x.why(line, 0, 1), -1);
    Due.each("why of the shift end", Due.NOBODY, end -> x.why(1, end, 9), 1);
    Due.promise(19, "- `stop`: 1 to 9");
    Due.each("why of the stop", Due.NO_STOPS, stop -> x.why(0, 0, stop), -1);
    for (int end = 0; end < 3; end++) {
      for (int stop = 1; stop <= 9; stop++) {
        Due.due("why(0, " + end + ", " + stop + ")", x.why(0, end, stop), 0);
        Due.due("why(1, " + end + ", " + stop + ")", x.why(1, end, stop), 0);
      }
    }
  }

  private static void returnsTheReason() {
    Due.promise(19, "Returns the reason, 0 if it would; UNKNOWN (line or stop).");
    CountedBuses x = Due.worksWithEnds(600);
    x.set(1, 1);
    x.set(3, 25);
    Due.due("it would", x.why(0, 0, 5), 0);
    Due.due("no shift end", x.why(0, 1, 5), 1);
    Due.due("late", x.why(0, 0, 6), 3);
    x.book(0, 0, 1);
    Due.due("full", x.why(0, 0, 5), 2);
    Due.due("full, and late", x.why(0, 0, 6), 2);
    Due.due("no line, and no shift end", x.why(2, 1, 5), -1);
    Due.due("no stop, and no shift end", x.why(0, 1, 0), -1);
    Due.due("no stop, and full", x.why(0, 0, 10), -1);
  }

  public static void main(String[] args) {
    CountedBuses x = Due.worksWithEnds(600, 620);
    x.set(1, 1);
    x.set(3, 30);
    Due.due("it would be promised", x.why(0, 0, 6), 0);
    Due.due("too late", x.why(0, 0, 7), 3);
    x.book(0, 0, 2);
    Due.due("full on the first stretch", x.why(0, 0, 9), 2);
    Due.due("full as far as the stop", x.why(0, 0, 1), 2);
    Due.due("the other line has a seat", x.why(1, 0, 1), 0);
    Due.due("the other bus has a seat", x.why(0, 1, 1), 0);
    x.merge(0, 0, 1);
    Due.due("one bus, full", x.why(0, 1, 1), 2);
    x.takeBack(0);
    Due.due("20 minutes to wait and 10 to ride", x.why(0, 0, 2), 0);
    Due.due("20 minutes to wait and 15 to ride", x.why(0, 0, 3), 3);
    Due.due("the later end does not wait", x.why(0, 1, 6), 0);
    Due.due("but it rides", x.why(0, 1, 7), 3);

    String before = Due.allOf(x);
    int[] ends = {2, -1, 10, -5, Integer.MIN_VALUE, Integer.MAX_VALUE};
    for (int end : ends) {
      Due.due("there is no end " + end, x.why(0, end, 1), 1);
    }
    int[][] unknown = {{-1, 0, 1}, {2, 0, 1}, {0, 0, 0}, {0, 0, 10}, {2, 9, 1}, {0, 9, 10},
        {Integer.MAX_VALUE, 0, 1}, {0, 0, Integer.MIN_VALUE}};
    for (int[] a : unknown) {
      Due.due("why(" + a[0] + ", " + a[1] + ", " + a[2] + ")", x.why(a[0], a[1], a[2]), -1);
    }
    Due.holds("asking changes nothing", before.equals(Due.allOf(x)));
    whyItWouldNotBePromised();
    whatIsAsked();
    returnsTheReason();
    Due.finish();
  }
}
