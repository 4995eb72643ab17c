/** Promise 18: taken. */
public final class Promise18TakenTest {
  private static void due(CountedBuses x, int line, int end, int... want) {
    for (int stop = 1; stop <= want.length; stop++) {
      Due.due("taken(" + line + ", " + end + ", " + stop + ")", x.taken(line, end, stop), want[stop - 1]);
    }
  }

  private static void seatsTakenByPromises() {
    Due.promise(18, "`int taken(int line, int end, int stop)`: Tells the seats that are taken by promises on a stretch.");
    CountedBuses x = Due.worksWithEnds(600);
    x.set(3, 35);
    x.book(0, 0, 9); // late, waits
    x.book(0, 0, 7);
    x.book(0, 0, 8); // late, waits
    x.book(0, 0, 2);
    due(x, 0, 0, 2, 2, 1, 1, 1, 1, 1, 0, 0);
    x.set(3, 40);
    due(x, 0, 0, 3, 3, 2, 2, 2, 2, 2, 1, 0);
    x.set(3, 10);
    due(x, 0, 0, 3, 3, 2, 2, 2, 2, 2, 1, 0); // promises stay, late or not
    x.takeBack(1);
    due(x, 0, 0, 2, 2, 1, 1, 1, 1, 1, 1, 0);
  }

  private static void whichStretchIsAsked() {
    CountedBuses x = Due.worksWithEnds(600, 700, 800);
    for (int bus = 0; bus < 6; bus++) {
      x.book(bus / 2, bus % 2, 1 + bus);
    }
    Due.promise(18, "- `line`: 0 or 1");
    Due.each("taken of the line", Due.NO_LINES, line -> x.taken(line, 0, 1), -1);
    Due.promise(18, "- `end`: a shift end");
    Due.each("taken of the shift end", Due.NOBODY, end -> x.taken(0, end, 1), -1);
    Due.promise(18, "- `stop`: 1 to 9: the stretch that comes to this stop");
    Due.each("taken to the stop", Due.NO_STOPS, stop -> x.taken(0, 0, stop), -1);
    for (int bus = 0; bus < 6; bus++) {
      for (int stop = 1; stop <= 9; stop++) {
        Due.due("taken of the bus " + bus + " to " + stop, x.taken(bus % 2, bus / 2, stop), stop <= 1 + bus ? 1 : 0);
      }
    }
  }

  private static void returnsHowMany() {
    Due.promise(18, "Returns how many; UNKNOWN (line, end or stop).");
    CountedBuses x = Due.worksWithEnds(600);
    x.set(1, 30);
    for (int riders = 0; riders < 30; riders++) {
      Due.due("taken to 5 by " + riders, x.taken(1, 0, 5), riders);
      Due.due("taken to 6 by " + riders, x.taken(1, 0, 6), 0);
      x.book(0, 1, 5);
    }
    Due.due("taken to 5 by thirty", x.taken(1, 0, 5), 30);
    Due.due("nothing that there is", x.taken(2, 1, 0), -1);
  }

  public static void main(String[] args) {
    CountedBuses x = Due.worksWithEnds(600, 620);
    x.set(1, 3);
    x.book(0, 0, 3);
    x.book(0, 0, 5);
    x.book(1, 0, 9);
    x.book(0, 1, 1);
    due(x, 0, 0, 2, 2, 2, 1, 1, 0, 0, 0, 0);
    due(x, 0, 1, 1, 1, 1, 1, 1, 1, 1, 1, 1);
    due(x, 1, 0, 1, 0, 0, 0, 0, 0, 0, 0, 0);
    x.merge(0, 0, 1);
    x.book(0, 0, 9); // waits and takes no seat
    due(x, 0, 0, 3, 3, 3, 2, 2, 1, 1, 1, 1);
    due(x, 0, 1, 3, 3, 3, 2, 2, 1, 1, 1, 1);
    due(x, 1, 1, 0, 0, 0, 0, 0, 0, 0, 0, 0);
    x.set(1, 1);
    due(x, 0, 0, 3, 3, 3, 2, 2, 1, 1, 1, 1);

    String before = Due.allOf(x);
    int[][] unknown = {{-1, 0, 1}, {2, 0, 1}, {0, -1, 1}, {0, 2, 1}, {0, 0, 0}, {0, 0, 10}, {0, 0, -1},
        {Integer.MAX_VALUE, 0, 1}, {0, Integer.MIN_VALUE, 1}, {0, 0, Integer.MAX_VALUE}};
    for (int[] a : unknown) {
      Due.due("taken(" + a[0] + ", " + a[1] + ", " + a[2] + ")", x.taken(a[0], a[1], a[2]), -1);
    }
    Due.holds("asking changes nothing", before.equals(Due.allOf(x)));
    seatsTakenByPromises();
    whichStretchIsAsked();
    returnsHowMany();
    Due.finish();
  }
}
