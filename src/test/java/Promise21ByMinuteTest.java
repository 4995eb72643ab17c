/** Promise 21: byMinute. */
public final class Promise21ByMinuteTest {
  private static void byRisingMinutes() {
    Due.promise(21, "`int byMinute(int rank)`: Tells the shift ends by rising minutes, of several by numbers.");
    int[][] minutes = {{0, 1, 2, 3, 4}, {4, 3, 2, 1, 0}, {5, 5, 5, 5, 5}, {1439, 0, 1439, 0, 720}, {7, 8, 7, 8, 7}};
    int[][] order = {{0, 1, 2, 3, 4}, {4, 3, 2, 1, 0}, {0, 1, 2, 3, 4}, {1, 3, 4, 0, 2}, {0, 2, 4, 1, 3}};
    for (int i = 0; i < minutes.length; i++) {
      CountedBuses x = Due.worksWithEnds(minutes[i]);
      for (int rank = 0; rank < 5; rank++) {
        Due.due("byMinute(" + rank + ") of the order " + i, x.byMinute(rank), order[i][rank]);
      }
    }
  }

  private static void ranksFromZero() {
    Due.promise(21, "- `rank`: a rank, from 0");
    CountedBuses x = Due.worksWithEnds(600);
    Due.due("byMinute(0)", x.byMinute(0), 0);
    Due.due("byMinute(1)", x.byMinute(1), -5);
    Due.due("byMinute(-1)", x.byMinute(-1), -2);
    x.addEnd(500);
    Due.due("byMinute(0)", x.byMinute(0), 1);
    Due.due("byMinute(1)", x.byMinute(1), 0);
    Due.due("byMinute(2)", x.byMinute(2), -5);
    Due.due("byMinute(-1)", x.byMinute(-1), -2);
  }

  public static void main(String[] args) {
    CountedBuses x = Due.worksWithEnds(700, 0, 1439, 700, 5, 700, 0, 1, 1438, 2);
    int[] order = {1, 6, 7, 9, 4, 0, 3, 5, 8, 2};
    String before = Due.allOf(x);
    for (int rank = 0; rank < 10; rank++) {
      Due.due("byMinute(" + rank + ")", x.byMinute(rank), order[rank]);
    }
    Due.due("byMinute(10)", x.byMinute(10), -5);
    Due.due("byMinute(greatest int)", x.byMinute(Integer.MAX_VALUE), -5);
    Due.due("byMinute(-1)", x.byMinute(-1), -2);
    Due.due("byMinute(least int)", x.byMinute(Integer.MIN_VALUE), -2);
    Due.holds("asking changes nothing", before.equals(Due.allOf(x)));

    CountedBuses y = Due.worksWithEnds(600, 610);
    Due.due("byMinute(2)", y.byMinute(2), -5);
    y.merge(0, 0, 1);
    Due.due("merging does not matter", y.byMinute(0), 0);
    byRisingMinutes();
    ranksFromZero();
    Due.finish();
  }
}
