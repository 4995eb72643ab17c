/** Promise 8: part. */
public final class Promise08PartTest {
  private static void partsByEither() {
    CountedBuses x = Due.worksWithEnds(600, 610, 620);
    x.merge(0, 0, 2);
    Due.due("part by the later one", x.part(0, 2), 0);
    Due.due("its bus starts at its minute again", x.bus(0, 0, 0), 600);
    Due.due("bus(0, 2, 1)", x.bus(0, 2, 1), -5);
    Due.due("count(4)", x.count(4), 0);
    x.merge(0, 2, 0);
    Due.due("part by the earlier one", x.part(0, 0), 2);
    Due.due("it is an act", x.undo(), 3);
    Due.due("merged again by undo()", x.bus(0, 0, 1), 2);
    x.part(0, 0);
    Due.due("it can be merged with another one then", x.merge(0, 1, 0), 610);
  }

  private static void looksAtThoseWhoWait() {
    CountedBuses x = Due.worksWithEnds(600, 610);
    x.set(1, 1);
    x.merge(0, 0, 1);
    x.book(1, 0, 9); // 0 is promised
    x.book(0, 0, 9); // 1 waits
    x.book(1, 0, 1); // 2 waits
    x.part(0, 1);
    Due.due("the promise stays", x.worker(0, 3), 1);
    Due.due("the other bus has a seat", x.worker(1, 3), 1);
    Due.due("the own bus has none", x.worker(2, 3), 0);

    CountedBuses y = Due.worksWithEnds(600, 630);
    y.set(3, 50);
    y.merge(0, 0, 1);
    y.book(0, 0, 5); // late by the merged bus
    Due.due("worker(0, 3)", y.worker(0, 3), 0);
    y.part(0, 0);
    Due.due("in time by the own bus", y.worker(0, 3), 1);
  }

  private static void errors() {
    CountedBuses x = Due.worksWithEnds(600, 610);
    x.merge(1, 0, 1);
    String before = Due.allOf(x);
    int[][] unknown = {{-1, 0}, {2, 0}, {0, -1}, {0, 2}, {Integer.MIN_VALUE, 0}, {0, Integer.MAX_VALUE}, {1, 10}};
    for (int[] a : unknown) {
      Due.due("part(" + a[0] + ", " + a[1] + ")", x.part(a[0], a[1]), -1);
    }
    Due.due("not merged on this line", x.part(0, 0), -5);
    Due.due("not merged on this line", x.part(0, 1), -5);
    Due.holds("errors and NONE change nothing", before.equals(Due.allOf(x)));
    Due.due("part(1, 1)", x.part(1, 1), 0);
    Due.due("parted already", x.part(1, 0), -5);
  }

  private static void partsThemAgain() {
    Due.promise(8, "`int part(int line, int end)`: Parts a bus again.");
    CountedBuses x = Due.worksWithEnds(600, 620, 640);
    x.book(0, 0, 3);
    x.book(1, 0, 5);
    x.merge(0, 0, 1);
    x.merge(1, 0, 1);
    x.book(0, 0, 1);
    Due.due("part", x.part(0, 0), 1);
    int[][] due = {{600, -5, 2, 0, 3, 26}, {620, -5, 1, 0, 5, 30}};
    for (int end = 0; end < 2; end++) {
      for (int what = 0; what <= 5; what++) {
        Due.due("bus(0, " + end + ", " + what + ")", x.bus(0, end, what), due[end][what]);
      }
      Due.due("the other line stays merged", x.bus(1, end, 1), 1 - end);
    }
    Due.due("minutes behind the own shift end", x.worker(0, 4), 15);
    Due.due("it can be merged again", x.merge(0, 1, 0), 620);
    Due.due("and parted again", x.part(0, 1), 0);
    Due.due("and merged with another one", x.merge(0, 2, 1), 640);
  }

  private static void isAnAct() {
    Due.promise(8, "This is an act.");
    Due.isAnAct("part", x -> {
      x.addEnd(600);
      x.addEnd(610);
      x.merge(1, 0, 1);
    }, x -> x.part(1, 0));
    Due.isAnAct("part that lets somebody in", x -> {
      x.addEnd(600);
      x.addEnd(610);
      x.set(3, 10);
      x.merge(0, 0, 1);
      x.book(0, 0, 1);
    }, x -> x.part(0, 1));
  }

  private static void whatIsParted() {
    CountedBuses x = Due.worksWithEnds(600, 600, 600);
    x.merge(0, 0, 2);
    x.merge(1, 0, 2);
    Due.promise(8, "- `line`: 0 or 1");
    Due.each("part of the line", Due.NO_LINES, line -> x.part(line, 0), -1);
    Due.promise(8, "- `end`: a shift end: either of both");
    Due.each("part of the shift end", Due.NOBODY, end -> x.part(0, end), -1);
    for (int line = 0; line < 2; line++) {
      for (int end = 0; end < 3; end++) {
        Due.due("part(" + line + ", " + end + ")", x.part(line, end), end == 1 ? -5 : 2 - end);
        Due.due("pairs", x.count(4), end == 1 ? 2 : 1);
        x.merge(line, 0, 2);
      }
    }
  }

  public static void main(String[] args) {
    partsByEither();
    looksAtThoseWhoWait();
    errors();
    partsThemAgain();
    isAnAct();
    whatIsParted();
    Due.finish();
  }
}
