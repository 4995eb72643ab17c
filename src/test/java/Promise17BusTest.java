/** Promise 17: bus. */
public final class Promise17BusTest {
  private static void due(CountedBuses x, int line, int end, int... want) {
    for (int what = 0; what < want.length; what++) {
      Due.due("bus(" + line + ", " + end + ", " + what + ")", x.bus(line, end, what), want[what]);
    }
  }

  private static void allThatIsTold() {
    CountedBuses x = Due.worksWithEnds(620, 600, 900);
    x.set(1, 2);
    x.book(0, 0, 3);
    x.book(1, 0, 7);
    x.book(1, 1, 1);
    x.book(2, 0, 1);
    due(x, 0, 0, 620, -5, 1, 0, 3, 26);
    due(x, 0, 1, 600, -5, 1, 0, 7, 34);
    due(x, 1, 1, 600, -5, 1, 0, 1, 22);
    due(x, 1, 0, 620, -5, 0, 0, 0, 0);
    x.merge(0, 0, 1);
    x.book(0, 0, 9); // waits
    x.book(1, 0, 1); // waits
    due(x, 0, 0, 620, 1, 2, 2, 7, 34);
    due(x, 0, 1, 620, 0, 2, 2, 7, 34);
    due(x, 1, 1, 600, -5, 1, 0, 1, 22);
    due(x, 0, 2, 900, -5, 1, 0, 1, 22);
  }

  /** What it costs today is told by those who ride, not by all who have promises. */
  private static void costOfThoseWhoRide() {
    CountedBuses x = Due.worksWithEnds(600);
    x.book(0, 0, 3);
    x.book(0, 0, 8);
    x.set(3, 20);
    due(x, 0, 0, 600, -5, 2, 0, 8, 26);
    x.set(3, 10);
    due(x, 0, 0, 600, -5, 2, 0, 8, 0);
    x.set(3, 300);
    x.set(1, 1);
    due(x, 0, 0, 600, -5, 2, 0, 8, 36);
  }

  private static void errors() {
    CountedBuses x = Due.worksWithEnds(600);
    String before = Due.allOf(x);
    int[][] unknown = {{-1, 0, 0}, {2, 0, 0}, {0, -1, 0}, {0, 1, 0}, {0, 10, 9}, {0, -5, 0}, {Integer.MIN_VALUE, 0, 0},
        {0, Integer.MAX_VALUE, -1}};
    for (int[] a : unknown) {
      Due.due("bus(" + a[0] + ", " + a[1] + ", " + a[2] + ")", x.bus(a[0], a[1], a[2]), -1);
    }
    int[] bad = {-1, 6, Integer.MIN_VALUE, Integer.MAX_VALUE};
    for (int what : bad) {
      Due.due("bus(0, 0, " + what + ")", x.bus(0, 0, what), -2);
    }
    Due.holds("asking changes nothing", before.equals(Due.allOf(x)));
  }

  private static void whichBusIsAsked() {
    CountedBuses x = Due.worksWithEnds(600, 700, 800);
    Due.promise(17, "`int bus(int line, int end, int what)`: - `line`: 0 or 1");
    Due.each("bus of the line", Due.NO_LINES, line -> x.bus(line, 0, 0), -1);
    Due.promise(17, "- `end`: a shift end");
    Due.each("bus of the shift end", Due.NOBODY, end -> x.bus(0, end, 0), -1);
    for (int bus = 0; bus < 6; bus++) {
      for (int riders = 0; riders < bus; riders++) {
        x.book(bus / 2, bus % 2, 9);
      }
    }
    for (int bus = 0; bus < 6; bus++) {
      Due.due("riders of the bus " + bus, x.bus(bus % 2, bus / 2, 2), bus);
      Due.due("start of the bus " + bus, x.bus(bus % 2, bus / 2, 0), 600 + 100 * (bus / 2));
    }
  }

  private static void whatIsAsked() {
    Due.promise(17, "- `what`: 0 for the minute at which its bus starts, 1 for the shift end with which it is merged (NONE without"
        + " one)");
    CountedBuses x = Due.worksWithEnds(0, 30, 1409, 1439);
    x.merge(1, 0, 1);
    x.merge(1, 3, 2);
    int[][] due = {{30, 1}, {30, 0}, {1439, 3}, {1439, 2}};
    int[] minutes = {0, 30, 1409, 1439};
    for (int end = 0; end < 4; end++) {
      Due.due("bus(1, " + end + ", 0)", x.bus(1, end, 0), due[end][0]);
      Due.due("bus(1, " + end + ", 1)", x.bus(1, end, 1), due[end][1]);
      Due.due("bus(0, " + end + ", 0)", x.bus(0, end, 0), minutes[end]);
      Due.due("bus(0, " + end + ", 1)", x.bus(0, end, 1), -5);
    }
  }

  private static void returnsTheNumber() {
    Due.promise(17, "Returns the number; UNKNOWN (line or end); BAD_VALUE.");
    CountedBuses x = Due.worksWithEnds(600);
    x.book(0, 1, 4);
    due(x, 1, 0, 600, -5, 1, 0, 4, 28);
    int[] bad = {-1, 6, 256, 65536, Integer.MIN_VALUE, Integer.MAX_VALUE};
    Due.each("bus(1, 0, what) with what at", bad, what -> x.bus(1, 0, what), -2);
    Due.each("no line, with what at", bad, what -> x.bus(2, 0, what), -1);
    Due.each("no shift end, with what at", bad, what -> x.bus(1, 1, what), -1);
  }

  public static void main(String[] args) {
    allThatIsTold();
    costOfThoseWhoRide();
    errors();
    whichBusIsAsked();
    whatIsAsked();
    returnsTheNumber();
    Due.finish();
  }
}
