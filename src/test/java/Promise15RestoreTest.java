/** Promise 15: restore. */
public final class Promise15RestoreTest {
  private static void theSnapshotStays() {
    Due.promise(15, "`int restore()`: Restores the state of the snapshot, which stays.");
    CountedBuses x = Due.worksWithEnds(600, 610);
    x.book(0, 1, 7);
    x.merge(0, 1, 0);
    x.keep();
    String kept = Due.stateOf(x);
    for (int times = 0; times < 5; times++) {
      x.book(1, 0, 2);
      x.part(0, 0);
      x.set(times % 4, 17);
      x.passDay();
      x.takeBack(0);
      Due.due("restore", x.restore(), 1);
      Due.holds("the state is as it was kept", kept.equals(Due.stateOf(x)));
    }
  }

  private static void isAnAct() {
    Due.promise(15, "This is an act.");
    Due.isAnAct("restore", x -> {
      x.addEnd(600);
      x.book(0, 0, 1);
      x.keep();
      x.passDay();
    }, CountedBuses::restore);
    Due.isAnAct("restore of empty works", x -> {
      x.keep();
      x.addEnd(600);
      x.book(0, 0, 1);
    }, CountedBuses::restore);
    CountedBuses x = Due.worksWithEnds(600);
    x.keep();
    x.restore();
    Due.due("it is one even if nothing changes", x.count(16), 2);
  }

  private static void returnsHowManyHaveBookingsThen() {
    Due.promise(15, "Returns how many workers have bookings then; NONE if there is no snapshot.");
    CountedBuses x = Due.worksWithEnds(600);
    Due.due("no snapshot", x.restore(), -5);
    x.book(0, 0, 1);
    x.undo();
    Due.due("the history is none", x.restore(), -5);
    for (int w = 0; w <= 30; w += 6) {
      while (x.count(1) < w) {
        x.book(0, 0, 1);
      }
      x.keep();
      x.book(0, 0, 1);
      x.takeBack(x.count(15) - 1);
      x.takeBack(0);
      Due.due("restore", x.restore(), w);
      Due.due("workers with bookings", x.count(1), w);
    }
  }

  public static void main(String[] args) {
    CountedBuses x = Due.worksWithEnds(600, 620);
    String before = Due.allOf(x);
    Due.due("restore() without a snapshot", x.restore(), -5);
    Due.holds("NONE changes nothing", before.equals(Due.allOf(x)));

    x.set(0, 3);
    x.book(0, 0, 1);
    x.book(0, 0, 2);
    x.set(1, 1); // from now on one of both goes by taxi
    x.merge(1, 0, 1);
    x.passDay();
    Due.due("keep()", x.keep(), 2);
    String kept = Due.stateOf(x);
    x.addEnd(5);
    x.part(1, 0);
    x.set(2, 7);
    x.passDay();
    x.takeBack(0);
    String changed = Due.stateOf(x);
    Due.due("restore()", x.restore(), 2);
    Due.holds("all is as it was kept", kept.equals(Due.stateOf(x)));
    Due.due("it is an act", x.undo(), 3);
    Due.holds("undo() of it", changed.equals(Due.stateOf(x)));
    Due.due("the snapshot stays", x.restore(), 2);
    Due.due("restore() twice is an act too", x.restore(), 2);
    Due.due("count(16)", x.count(16), 4);
    x.takeBack(1);
    Due.due("the snapshot does not change with the works", x.restore(), 2);
    Due.holds("all is as it was kept", kept.equals(Due.stateOf(x)));
    Due.due("numbers go on as they were then", x.book(0, 0, 1), 2);

    CountedBuses y = new CountedBuses();
    y.keep();
    y.addEnd(600);
    y.book(0, 0, 1);
    Due.due("restore() of empty works", y.restore(), 0);
    Due.due("count(0)", y.count(0), 0);
    theSnapshotStays();
    isAnAct();
    returnsHowManyHaveBookingsThen();
    Due.finish();
  }
}
