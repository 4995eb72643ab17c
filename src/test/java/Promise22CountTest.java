/** Promise 22: count. */
public final class Promise22CountTest {
  private static void shiftEndsAreCounted() {
    Due.promise(22, "`int count(int what)`: - `what`: 0 for the shift ends, 1 for workers with bookings, 2 for those with promises,"
        + " 3 for those that wait");
    CountedBuses x = new CountedBuses();
    for (int end = 0; end < 10; end++) {
      Due.due("count(0)", x.count(0), end);
      x.addEnd(1439 - end);
      for (int booking = 0; booking < 3; booking++) {
        x.set(1, booking < 2 ? 2 : 1);
        x.book(end, end % 2, 1);
      }
      Due.due("count(0)", x.count(0), end + 1);
      Due.due("count(1)", x.count(1), 3 * (end + 1));
      Due.due("count(2)", x.count(2), 2 * (end + 1));
      Due.due("count(3)", x.count(3), end + 1);
    }
  }

  private static void returnsTheNumber() {
    Due.promise(22, "Returns the number; BAD_VALUE.");
    CountedBuses x = new CountedBuses();
    int[] first = {0, 0, 0, 0, 0, 0, 0, 0, 0, 0, 0, 5, 6, 30, 90, 0, 0, 0};
    for (int what = -300; what < 150; what++) {
      int want = what >= 0 && what < first.length ? first[what] : -2;
      Due.due("count(" + what + ")", x.count(what), want);
    }
    int[] far = {256, 257, 65536, 65547, Integer.MIN_VALUE, Integer.MIN_VALUE + 11, Integer.MAX_VALUE};
    Due.each("count of", far, x::count, -2);
  }

  public static void main(String[] args) {
    CountedBuses x = Due.worksWithEnds(600, 620, 640, 660);
    x.set(0, 6);
    x.set(1, 3);
    x.set(2, 25);
    x.set(3, 91);
    for (int w = 0; w < 5; w++) {
      x.book(0, 0, 2 + w); // three have seats, two wait
    }
    x.book(2, 1, 9);
    x.takeBack(0); // lets the nearer one of both in
    x.merge(0, 0, 1);
    x.merge(1, 0, 1);
    x.merge(1, 2, 3);
    x.passDay(); // 0: 3 ride to stop 5; the last one's stop 9 is 74 minutes behind
    x.set(1, 1);
    x.passDay(); // two of three go by taxi, to the stops 3 and 4
    Due.typeText(x, "0a");
    int[] want = {4, 5, 4, 1, 3, 2, 4 + 2, 2, 2, 30 + 38 + 30 + 38, 17 + 20, 6, 1, 25, 91, 6, 4, 2};
    for (int what = 0; what < want.length; what++) {
      Due.due("count(" + what + ")", x.count(what), want[what]);
    }
    int[] bad = {-1, 18, Integer.MIN_VALUE, Integer.MAX_VALUE};
    String before = Due.allOf(x);
    for (int what : bad) {
      Due.due("count(" + what + ")", x.count(what), -2);
    }
    Due.holds("asking changes nothing", before.equals(Due.allOf(x)));
    shiftEndsAreCounted();
    returnsTheNumber();
    Due.finish();
  }
}
