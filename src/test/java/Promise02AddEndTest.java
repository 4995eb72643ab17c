/** Promise 2: addEnd. */
public final class Promise02AddEndTest {
  public static void main(String[] args) {
    CountedBuses x = new CountedBuses();
    Due.due("addEnd(-1)", x.addEnd(-1), -2);
    Due.due("addEnd(1440)", x.addEnd(1440), -2);
    Due.due("addEnd(least int)", x.addEnd(Integer.MIN_VALUE), -2);
    Due.due("addEnd(greatest int)", x.addEnd(Integer.MAX_VALUE), -2);
    Due.due("no state is recorded by an error", x.count(16), 0);
    int[] minutes = {0, 1439, 700, 700, 1, 2, 3, 4, 5, 6};
    for (int end = 0; end < 10; end++) {
      Due.due("addEnd", x.addEnd(minutes[end]), end);
      Due.due("its bus starts", x.bus(0, end, 0), minutes[end]);
      Due.due("and that of the other line", x.bus(1, end, 0), minutes[end]);
      Due.due("count(0)", x.count(0), end + 1);
      Due.due("it is an act", x.count(16), Math.min(4, end + 1));
    }
    String before = Due.allOf(x);
    Due.due("addEnd when there are 10", x.addEnd(100), -3);
    Due.due("the bad minute comes first", x.addEnd(1440), -2);
    Due.holds("errors change nothing", before.equals(Due.allOf(x)));
    Due.due("undo()", x.undo(), 3);
    Due.due("count(0) after undo()", x.count(0), 9);
    Due.due("the number is free again then", x.addEnd(8), 9);

    CountedBuses y = Due.worksWithEnds(600);
    y.set(1, 1);
    y.book(0, 0, 1);
    y.book(0, 0, 1);
    y.addEnd(601);
    Due.due("who waits is not looked at by it", y.worker(1, 3), 0);
    Due.finish();
  }
}
