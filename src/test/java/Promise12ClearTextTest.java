/** Promise 12: clearText. */
public final class Promise12ClearTextTest {
  public static void main(String[] args) {
    CountedBuses x = Due.worksWithEnds(600);
    Due.due("clearText() of an empty text", x.clearText(), 0);
    Due.typeText(x, "0a123");
    Due.due("clearText()", x.clearText(), 5);
    Due.due("count(17)", x.count(17), 0);
    Due.due("clearText() again", x.clearText(), 0);
    Due.due("an empty text has its fault at 0", x.bookAll(), -100);
    Due.typeText(x, "0b4");
    Due.due("bookAll()", x.bookAll(), 1);
    Due.due("nothing is left of the old text", x.worker(0, 1), 1);
    Due.due("it is no act", x.count(16), 2);
    x.clearText();
    Due.due("undo()", x.undo(), 1);
    Due.due("undo() does not bring the text back", x.count(17), 0);
    for (int i = 0; i < 60; i++) {
      x.type('x');
    }
    Due.due("clearText() of a full text", x.clearText(), 60);
    Due.due("there is room again", x.type('x'), 1);
    Due.finish();
  }
}
