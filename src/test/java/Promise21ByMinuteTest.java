/** Promise 21: byMinute. */
public final class Promise21ByMinuteTest {
  public static void main(String[] args) {
    CountedBuses x = Due.worksWithEnds(700, 0, 1439, 700, 5, 700, 0, 1, 1438, 2);
    int[] order = {1, 6, 7, 9, 4, 0, 3, 5, 8, 2};
    String before = Due.allOf(x);
    for (int rank = 0; rank < 10; rank++) {
      Due.due("byMinute(" + rank + ")", x.byMinute(rank), order[rank]);
    }
    Due.due("byMinute(10)", x.byMinute(10), -5);
    Due.due("byMinute(greatest int)", x.byMinute(Integer.MAX_VALUE), -5);
    Due.due("byMinute(-1)", x.byMinute(-1), -2);
    Due.due("byMinute(least int)", x.byMinute(Integer.MIN_VALUE), -2);
    Due.holds("asking changes nothing", before.equals(Due.allOf(x)));

    CountedBuses y = Due.worksWithEnds(600, 610);
    Due.due("byMinute(2)", y.byMinute(2), -5);
    y.merge(0, 0, 1);
    Due.due("merging does not matter", y.byMinute(0), 0);
    Due.finish();
  }
}
