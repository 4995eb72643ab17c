/** Promise 20: spares. */
public final class Promise20SparesTest {
  private static void whatItSpares() {
    CountedBuses x = Due.worksWithEnds(600, 620);
    Due.due("two empty buses", x.spares(0, 0, 1), 0);
    x.book(0, 0, 4);
    Due.due("one of both is empty", x.spares(0, 0, 1), 0);
    Due.due("the other way round", x.spares(0, 1, 0), 0);
    x.book(1, 0, 9);
    Due.due("28 and 38 less 38", x.spares(0, 0, 1), 28);
    Due.due("the other way round", x.spares(0, 1, 0), 28);
    Due.due("the other line", x.spares(1, 0, 1), 0);
    Due.due("it does not merge them", x.count(4), 0);
    int before = x.bus(0, 0, 5) + x.bus(0, 1, 5);
    x.merge(0, 0, 1);
    Due.due("as told", before - x.bus(0, 0, 5), 28);
  }

  private static void errors() {
    CountedBuses x = Due.worksWithEnds(600, 620, 631, 651);
    x.book(0, 0, 1);
    String before = Due.allOf(x);
    int[][] unknown = {{-1, 0, 1}, {2, 0, 1}, {0, -1, 1}, {0, 4, 1}, {0, 0, 4}, {0, 0, -1}, {0, 9, 9}, {2, 0, 0},
        {0, 0, -5}, {Integer.MIN_VALUE, 0, 1}, {0, Integer.MAX_VALUE, 1}, {0, 1, Integer.MIN_VALUE}};
    for (int[] a : unknown) {
      Due.due("spares(" + a[0] + ", " + a[1] + ", " + a[2] + ")", x.spares(a[0], a[1], a[2]), -1);
    }
    Due.due("both are the same", x.spares(0, 1, 1), -2);
    Due.due("31 minutes apart", x.spares(0, 0, 2), -4);
    Due.holds("asking changes nothing", before.equals(Due.allOf(x)));
    x.merge(0, 0, 1);
    Due.due("merged already", x.spares(0, 0, 1), -4);
    Due.due("one of them is merged already", x.spares(0, 2, 1), -4);
    x.set(3, 20);
    x.book(2, 0, 4);
    Due.due("one would be too late", x.spares(0, 2, 3), -4);
    Due.due("not on the other line", x.spares(1, 2, 3), 0);
    x.set(1, 1);
    x.set(3, 90);
    Due.due("seats for both", x.spares(0, 2, 3), 0);
    x.book(3, 0, 1);
    Due.due("too few seats", x.spares(0, 2, 3), -4);
  }

  private static void whatMergingWouldSpare() {
    Due.promise(20, "`int spares(int line, int end, int other)`: Tells what merging two buses would spare");
    for (int stop = 0; stop <= 9; stop++) {
      for (int other = 0; other <= 9; other++) {
        CountedBuses x = Due.worksWithEnds(600, 620);
        if (stop > 0) {
          x.book(0, 1, stop);
        }
        if (other > 0) {
          x.book(1, 1, other);
        }
        int spared = x.spares(1, 0, 1);
        Due.due("to " + stop + " and to " + other, spared, Math.min(stop, other) == 0 ? 0 : 20 + 2 * Math.min(stop, other));
        x.passDay();
        int apart = x.count(9);
        x.merge(1, 0, 1);
        x.passDay();
        Due.due("as the days tell", apart - (x.count(9) - apart), spared);
      }
    }
  }

  private static void whatIsAsked() {
    CountedBuses x = Due.worksWithEnds(600, 610, 620);
    x.book(0, 1, 3);
    x.book(1, 1, 4);
    x.book(2, 1, 5);
    Due.promise(20, "- `line`: 0 or 1");
    Due.each("spares of the line", Due.NO_LINES, line -> x.spares(line, 0, 1), -1);
    Due.promise(20, "- `end`: a shift end");
    Due.each("spares of the shift end", Due.NOBODY, end -> x.spares(0, end, 1), -1);
    Due.promise(20, "- `other`: another shift end");
    Due.each("spares with the shift end", Due.NOBODY, other -> x.spares(0, 0, other), -1);
    for (int end = 0; end < 3; end++) {
      for (int other = 0; other < 3; other++) {
        int spared = 26 + 2 * Math.min(end, other);
        Due.due("spares(1, " + end + ", " + other + ")", x.spares(1, end, other), end == other ? -2 : spared);
        Due.due("spares(0, " + end + ", " + other + ")", x.spares(0, end, other), end == other ? -2 : 0);
      }
    }
  }

  private static void returnsTheNumber() {
    Due.promise(20, "Returns the number; UNKNOWN (line, end or other); BAD_VALUE if both are the same; NOT_POSSIBLE if they cannot"
        + " be merged.");
    CountedBuses x = Due.worksWithEnds(600, 610, 700);
    Due.due("no line, both the same", x.spares(2, 0, 0), -1);
    Due.due("no shift end, both the same", x.spares(0, 3, 3), -1);
    Due.due("both the same", x.spares(0, 2, 2), -2);
    Due.due("too far apart", x.spares(0, 2, 0), -4);
    Due.due("no line, too far apart", x.spares(-1, 2, 0), -1);
    Due.due("they can be merged", x.spares(0, 0, 1), 0);
    x.merge(0, 0, 1);
    Due.due("merged already", x.spares(0, 0, 1), -4);
    Due.due("both the same, merged already", x.spares(0, 0, 0), -2);
    Due.due("one is merged already, the other one is not there", x.spares(0, 0, 3), -1);
  }

  public static void main(String[] args) {
    whatItSpares();
    errors();
    whatMergingWouldSpare();
    whatIsAsked();
    returnsTheNumber();
    Due.finish();
  }
}
