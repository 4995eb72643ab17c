/** Promise 9: set. */
public final class Promise09SetTest {
  private static void ranges() {
    int[] first = {5, 6, 30, 90};
    int[] least = {1, 1, 0, 10};
    int[] most = {20, 30, 120, 300};
    for (int which = 0; which < 4; which++) {
      CountedBuses x = new CountedBuses();
      Due.due("below the range of " + which, x.set(which, least[which] - 1), -2);
      Due.due("above the range of " + which, x.set(which, most[which] + 1), -2);
      Due.due("as it is", x.set(which, first[which]), -5);
      Due.due("no state is recorded yet", x.count(16), 0);
      Due.due("the least of " + which, x.set(which, least[which]), first[which]);
      Due.due("the most of " + which, x.set(which, most[which]), least[which]);
      Due.due("it is so already", x.set(which, most[which]), -5);
      Due.due("count(" + (11 + which) + ")", x.count(11 + which), most[which]);
      Due.due("it is an act", x.undo(), 1);
      Due.due("set back by undo()", x.count(11 + which), least[which]);
    }
    CountedBuses x = new CountedBuses();
    int[] whichs = {-1, 4, Integer.MIN_VALUE, Integer.MAX_VALUE};
    for (int which : whichs) {
      Due.due("set(" + which + ", 10)", x.set(which, 10), -2);
    }
    Due.due("set(0, least int)", x.set(0, Integer.MIN_VALUE), -2);
    Due.due("set(3, greatest int)", x.set(3, Integer.MAX_VALUE), -2);
    Due.due("count(16)", x.count(16), 0);
  }

  private static void looksAtThoseWhoWait() {
    CountedBuses x = Due.worksWithEnds(600);
    x.set(1, 1);
    x.book(0, 0, 4);
    x.book(0, 0, 4); // 1 waits for a seat
    x.set(2, 31);
    Due.due("setting 2 lets nobody in", x.worker(1, 3), 0);
    x.set(1, 2);
    Due.due("more seats do", x.worker(1, 3), 1);

    CountedBuses y = Due.worksWithEnds(600);
    y.set(3, 20);
    y.book(0, 0, 5);
    Due.due("25 minutes are too late", y.worker(0, 3), 0);
    y.set(0, 4);
    Due.due("20 are not", y.worker(0, 3), 1);

    CountedBuses z = Due.worksWithEnds(600);
    z.set(3, 20);
    z.book(0, 0, 5);
    z.set(3, 25);
    Due.due("a later hour does as well", z.worker(0, 3), 1);

    CountedBuses all = Due.worksWithEnds(600);
    all.set(1, 30);
    all.set(3, 10);
    for (int w = 0; w < 30; w++) {
      all.book(0, 0, 9);
    }
    Due.due("all thirty are late", all.count(3), 30);
    all.set(3, 45);
    Due.due("all thirty have seats", all.count(2), 30);
  }

  private static void takesNoPromiseBack() {
    CountedBuses x = Due.worksWithEnds(600);
    x.book(0, 0, 4);
    x.book(0, 0, 9);
    x.set(1, 1);
    x.set(3, 10);
    x.set(0, 20);
    Due.due("promises are never taken back", x.count(2), 2);
  }

  private static void setsOneSetting() {
    Due.promise(9, "`int set(int which, int value)`: Sets a setting.");
    CountedBuses x = new CountedBuses();
    int[] settings = {5, 6, 30, 90};
    int[][] sets = {{2, 0}, {0, 20}, {3, 10}, {1, 30}, {0, 1}, {2, 120}, {1, 1}, {3, 300}};
    for (int[] a : sets) {
      Due.due("set(" + a[0] + ", " + a[1] + ")", x.set(a[0], a[1]), settings[a[0]]);
      settings[a[0]] = a[1];
      for (int which = 0; which < 4; which++) {
        Due.due("the setting " + which, x.count(11 + which), settings[which]);
      }
    }
  }

  private static void isAnAct() {
    Due.promise(9, "This is an act.");
    for (int which = 0; which < 4; which++) {
      int asked = which;
      Due.isAnAct("set of " + which, x -> x.addEnd(600), x -> x.set(asked, 15));
    }
    Due.isAnAct("set that lets somebody in", x -> {
      x.addEnd(600);
      x.set(1, 1);
      x.book(0, 0, 1);
      x.book(0, 0, 1);
    }, x -> x.set(1, 2));
  }

  private static void valuesInTheirRange() {
    Due.promise(9, "- `value`: in its range");
    int[][] ranges = {{1, 20}, {1, 30}, {0, 120}, {10, 300}};
    int[] values = {-1, 0, 1, 2, 9, 10, 11, 20, 21, 30, 31, 120, 121, 300, 301, Integer.MIN_VALUE, Integer.MAX_VALUE};
    for (int which = 0; which < 4; which++) {
      for (int value : values) {
        CountedBuses x = new CountedBuses();
        boolean isInRange = value >= ranges[which][0] && value <= ranges[which][1];
        int first = x.count(11 + which);
        int want = !isInRange ? -2 : value == first ? -5 : first;
        Due.due("set(" + which + ", " + value + ")", x.set(which, value), want);
        Due.due("the setting " + which, x.count(11 + which), isInRange ? value : first);
      }
    }
  }

  public static void main(String[] args) {
    ranges();
    looksAtThoseWhoWait();
    takesNoPromiseBack();
    setsOneSetting();
    isAnAct();
    valuesInTheirRange();
    Due.finish();
  }
}
