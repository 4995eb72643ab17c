/** Promise 18: taken. */
public final class Promise18TakenTest {
  private static void due(CountedBuses x, int line, int end, int... want) {
    for (int stop = 1; stop <= want.length; stop++) {
      Due.due("taken(" + line + ", " + end + ", " + stop + ")", x.taken(line, end, stop), want[stop - 1]);
    }
  }

  public static void main(String[] args) {
    CountedBuses x = Due.worksWithEnds(600, 620);
    x.set(1, 3);
    x.book(0, 0, 3);
    x.book(0, 0, 5);
    x.book(1, 0, 9);
    x.book(0, 1, 1);
    due(x, 0, 0, 2, 2, 2, 1, 1, 0, 0, 0, 0);
    due(x, 0, 1, 1, 1, 1, 1, 1, 1, 1, 1, 1);
    due(x, 1, 0, 1, 0, 0, 0, 0, 0, 0, 0, 0);
    x.merge(0, 0, 1);
    x.book(0, 0, 9); // waits and takes no seat
    due(x, 0, 0, 3, 3, 3, 2, 2, 1, 1, 1, 1);
    due(x, 0, 1, 3, 3, 3, 2, 2, 1, 1, 1, 1);
    due(x, 1, 1, 0, 0, 0, 0, 0, 0, 0, 0, 0);
    x.set(1, 1);
    due(x, 0, 0, 3, 3, 3, 2, 2, 1, 1, 1, 1);

    String before = Due.allOf(x);
    int[][] unknown = {{-1, 0, 1}, {2, 0, 1}, {0, -1, 1}, {0, 2, 1}, {0, 0, 0}, {0, 0, 10}, {0, 0, -1},
        {Integer.MAX_VALUE, 0, 1}, {0, Integer.MIN_VALUE, 1}, {0, 0, Integer.MAX_VALUE}};
    for (int[] a : unknown) {
      Due.due("taken(" + a[0] + ", " + a[1] + ", " + a[2] + ")", x.taken(a[0], a[1], a[2]), -1);
    }
    Due.holds("asking changes nothing", before.equals(Due.allOf(x)));
    Due.finish();
  }
}
