/** Promise 14: keep. */
public final class Promise14KeepTest {
  public static void main(String[] args) {
    CountedBuses x = new CountedBuses();
    Due.due("keep() of new works", x.keep(), 0);
    Due.due("it is no act", x.count(16), 0);
    x.addEnd(600);
    x.book(0, 0, 1);
    x.book(0, 0, 2);
    x.takeBack(0);
    Due.due("keep()", x.keep(), 1);
    Due.due("count(16)", x.count(16), 4);
    String kept = Due.stateOf(x);
    x.book(0, 1, 4);
    x.passDay();
    Due.due("restore()", x.restore(), 1);
    Due.holds("the later snapshot is in place of the first one", kept.equals(Due.stateOf(x)));
    x.undo();
    x.undo();
    Due.due("undo() leaves the snapshot", x.restore(), 1);
    Due.holds("the snapshot is as it was", kept.equals(Due.stateOf(x)));
    Due.typeText(x, "0a1");
    x.restore();
    Due.due("the text is not in it", x.count(17), 3);
    Due.finish();
  }
}
