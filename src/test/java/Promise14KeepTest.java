/** Promise 14: keep. */
public final class Promise14KeepTest {
  private static void inPlaceOfTheOneThatWas() {
    Due.promise(14, "`int keep()`: Takes a snapshot of the state, in place of the one that was.");
    CountedBuses x = Due.worksWithEnds(600);
    for (int w = 0; w < 5; w++) {
      Due.due("keep", x.keep(), w);
      x.book(0, 0, 1 + w);
      Due.due("restore of the latest one", x.restore(), w);
      Due.due("the worker that came behind it", x.worker(w, 2), -1);
      x.undo();
      Due.due("undo of restore", x.worker(w, 2), 1 + w);
    }
  }

  private static void returnsHowManyHaveBookings() {
    Due.promise(14, "Returns how many workers have bookings.");
    CountedBuses x = Due.worksWithEnds(600);
    x.set(1, 1);
    for (int w = 0; w < 30; w++) {
      Due.due("keep with " + w, x.keep(), w);
      x.book(0, 0, 1);
    }
    Due.due("keep with thirty, of whom one has a seat", x.keep(), 30);
    for (int w = 0; w < 30; w++) {
      x.takeBack(w);
      Due.due("keep without " + w, x.keep(), 29 - w);
    }
  }

  public static void main(String[] args) {
    CountedBuses x = new CountedBuses();
    Due.due("keep() of new works", x.keep(), 0);
    Due.due("it is no act", x.count(16), 0);
    x.addEnd(600);
    x.book(0, 0, 1);
    x.book(0, 0, 2);
    x.takeBack(0);
    Due.due("keep()", x.keep(), 1);
    Due.due("count(16)", x.count(16), 4);
    String kept = Due.stateOf(x);
    x.book(0, 1, 4);
    x.passDay();
    Due.due("restore()", x.restore(), 1);
    Due.holds("the later snapshot is in place of the first one", kept.equals(Due.stateOf(x)));
    x.undo();
    x.undo();
    Due.due("undo() leaves the snapshot", x.restore(), 1);
    Due.holds("the snapshot is as it was", kept.equals(Due.stateOf(x)));
    Due.typeText(x, "0a1");
    x.restore();
    Due.due("the text is not in it", x.count(17), 3);
    inPlaceOfTheOneThatWas();
    returnsHowManyHaveBookings();
    Due.finish();
  }
}
