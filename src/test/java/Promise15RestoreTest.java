/** Promise 15: restore. */
public final class Promise15RestoreTest {
  public static void main(String[] args) {
    CountedBuses x = Due.worksWithEnds(600, 620);
    String before = Due.allOf(x);
    Due.due("restore() without a snapshot", x.restore(), -5);
    Due.holds("NONE changes nothing", before.equals(Due.allOf(x)));

    x.set(0, 3);
    x.book(0, 0, 1);
    x.book(0, 0, 2);
    x.set(1, 1); // from now on one of both goes by taxi
    x.merge(1, 0, 1);
    x.passDay();
    Due.due("keep()", x.keep(), 2);
    String kept = Due.stateOf(x);
    x.addEnd(5);
    x.part(1, 0);
    x.set(2, 7);
    x.passDay();
    x.takeBack(0);
    String changed = Due.stateOf(x);
    Due.due("restore()", x.restore(), 2);
    Due.holds("all is as it was kept", kept.equals(Due.stateOf(x)));
    Due.due("it is an act", x.undo(), 3);
    Due.holds("undo() of it", changed.equals(Due.stateOf(x)));
    Due.due("the snapshot stays", x.restore(), 2);
    Due.due("restore() twice is an act too", x.restore(), 2);
    Due.due("count(16)", x.count(16), 4);
    x.takeBack(1);
    Due.due("the snapshot does not change with the works", x.restore(), 2);
    Due.holds("all is as it was kept", kept.equals(Due.stateOf(x)));
    Due.due("numbers go on as they were then", x.book(0, 0, 1), 2);

    CountedBuses y = new CountedBuses();
    y.keep();
    y.addEnd(600);
    y.book(0, 0, 1);
    Due.due("restore() of empty works", y.restore(), 0);
    Due.due("count(0)", y.count(0), 0);
    Due.finish();
  }
}
