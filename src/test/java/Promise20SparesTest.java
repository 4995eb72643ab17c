/** Promise 20: spares. */
public final class Promise20SparesTest {
  private static void whatItSpares() {
    CountedBuses x = Due.worksWithEnds(600, 620);
    Due.due("two empty buses", x.spares(0, 0, 1), 0);
    x.book(0, 0, 4);
    Due.due("one of both is empty", x.spares(0, 0, 1), 0);
    Due.due("the other way round", x.spares(0, 1, 0), 0);
    x.book(1, 0, 9);
    Due.due("28 and 38 less 38", x.spares(0, 0, 1), 28);
    Due.due("the other way round", x.spares(0, 1, 0), 28);
    Due.due("the other line", x.spares(1, 0, 1), 0);
    Due.due("it does not merge them", x.count(4), 0);
    int before = x.bus(0, 0, 5) + x.bus(0, 1, 5);
    x.merge(0, 0, 1);
    Due.due("as told", before - x.bus(0, 0, 5), 28);
  }

  private static void errors() {
    CountedBuses x = Due.worksWithEnds(600, 620, 631, 651);
    x.book(0, 0, 1);
    String before = Due.allOf(x);
    int[][] unknown = {{-1, 0, 1}, {2, 0, 1}, {0, -1, 1}, {0, 4, 1}, {0, 0, 4}, {0, 0, -1}, {0, 9, 9}, {2, 0, 0},
        {0, 0, -5}, {Integer.MIN_VALUE, 0, 1}, {0, Integer.MAX_VALUE, 1}, {0, 1, Integer.MIN_VALUE}};
    for (int[] a : unknown) {
      Due.due("spares(" + a[0] + ", " + a[1] + ", " + a[2] + ")", x.spares(a[0], a[1], a[2]), -1);
    }
    Due.due("both are the same", x.spares(0, 1, 1), -2);
    Due.due("31 minutes apart", x.spares(0, 0, 2), -4);
    Due.holds("asking changes nothing", before.equals(Due.allOf(x)));
    x.merge(0, 0, 1);
    Due.due("merged already", x.spares(0, 0, 1), -4);
    Due.due("one of them is merged already", x.spares(0, 2, 1), -4);
    x.set(3, 20);
    x.book(2, 0, 4);
    Due.due("one would be too late", x.spares(0, 2, 3), -4);
    Due.due("not on the other line", x.spares(1, 2, 3), 0);
    x.set(1, 1);
    x.set(3, 90);
    Due.due("seats for both", x.spares(0, 2, 3), 0);
    x.book(3, 0, 1);
    Due.due("too few seats", x.spares(0, 2, 3), -4);
  }

  public static void main(String[] args) {
    whatItSpares();
    errors();
    Due.finish();
  }
}
