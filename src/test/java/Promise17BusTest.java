/** Promise 17: bus. */
public final class Promise17BusTest {
  private static void due(CountedBuses x, int line, int end, int... want) {
    for (int what = 0; what < want.length; what++) {
      Due.due("bus(" + line + ", " + end + ", " + what + ")", x.bus(line, end, what), want[what]);
    }
  }

  private static void allThatIsTold() {
    CountedBuses x = Due.worksWithEnds(620, 600, 900);
    x.set(1, 2);
    x.book(0, 0, 3);
    x.book(1, 0, 7);
    x.book(1, 1, 1);
    x.book(2, 0, 1);
    due(x, 0, 0, 620, -5, 1, 0, 3, 26);
    due(x, 0, 1, 600, -5, 1, 0, 7, 34);
    due(x, 1, 1, 600, -5, 1, 0, 1, 22);
    due(x, 1, 0, 620, -5, 0, 0, 0, 0);
    x.merge(0, 0, 1);
    x.book(0, 0, 9); // waits
    x.book(1, 0, 1); // waits
    due(x, 0, 0, 620, 1, 2, 2, 7, 34);
    due(x, 0, 1, 620, 0, 2, 2, 7, 34);
    due(x, 1, 1, 600, -5, 1, 0, 1, 22);
    due(x, 0, 2, 900, -5, 1, 0, 1, 22);
  }

  /** What it costs today is told by those who ride, not by all who have promises. */
  private static void costOfThoseWhoRide() {
    CountedBuses x = Due.worksWithEnds(600);
    x.book(0, 0, 3);
    x.book(0, 0, 8);
    x.set(3, 20);
    due(x, 0, 0, 600, -5, 2, 0, 8, 26);
    x.set(3, 10);
    due(x, 0, 0, 600, -5, 2, 0, 8, 0);
    x.set(3, 300);
    x.set(1, 1);
    due(x, 0, 0, 600, -5, 2, 0, 8, 36);
  }

  private static void errors() {
    CountedBuses x = Due.worksWithEnds(600);
    String before = Due.allOf(x);
    int[][] unknown = {{-1, 0, 0}, {2, 0, 0}, {0, -1, 0}, {0, 1, 0}, {0, 10, 9}, {0, -5, 0}, {Integer.MIN_VALUE, 0, 0},
        {0, Integer.MAX_VALUE, -1}};
    for (int[] a : unknown) {
      Due.due("bus(" + a[0] + ", " + a[1] + ", " + a[2] + ")", x.bus(a[0], a[1], a[2]), -1);
    }
    int[] bad = {-1, 6, Integer.MIN_VALUE, Integer.MAX_VALUE};
    for (int what : bad) {
      Due.due("bus(0, 0, " + what + ")", x.bus(0, 0, what), -2);
    }
    Due.holds("asking changes nothing", before.equals(Due.allOf(x)));
  }

  public static void main(String[] args) {
    allThatIsTold();
    costOfThoseWhoRide();
    errors();
    Due.finish();
  }
}
