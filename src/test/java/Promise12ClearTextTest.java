/** Promise 12: clearText. */
public final class Promise12ClearTextTest {
  private static void emptiesTheText() {
    Due.promise(12, "`int clearText()`: Empties the text.");
    CountedBuses x = Due.worksWithEnds(600);
    Due.typeText(x, "0a12");
    x.clearText();
    Due.due("the length", x.count(17), 0);
    Due.due("nothing of it is booked", x.bookAll(), -100);
    Due.due("the next character is the first one", x.type('0'), 1);
    Due.due("the text is what was typed since", x.bookAll(), -101);
    Due.due("nobody was booked", x.count(15), 0);
  }

  private static void returnsTheLengthThatItHad() {
    Due.promise(12, "Returns the length that it had.");
    CountedBuses x = Due.worksWithEnds(600);
    int[] lengths = {0, 1, 2, 59, 60, 3, 0};
    for (int length : lengths) {
      for (int i = 0; i < length; i++) {
        x.type('7');
      }
      Due.due("clearText of " + length, x.clearText(), length);
      Due.due("clearText again", x.clearText(), 0);
    }
  }

  public static void main(String[] args) {
    CountedBuses x = Due.worksWithEnds(600);
    Due.due("clearText() of an empty text", x.clearText(), 0);
    Due.typeText(x, "0a123");
    Due.due("clearText()", x.clearText(), 5);
    Due.due("count(17)", x.count(17), 0);
    Due.due("clearText() again", x.clearText(), 0);
    Due.due("an empty text has its fault at 0", x.bookAll(), -100);
    Due.typeText(x, "0b4");
    Due.due("bookAll()", x.bookAll(), 1);
    Due.due("nothing is left of the old text", x.worker(0, 1), 1);
    Due.due("it is no act", x.count(16), 2);
    x.clearText();
    Due.due("undo()", x.undo(), 1);
    Due.due("undo() does not bring the text back", x.count(17), 0);
    for (int i = 0; i < 60; i++) {
      x.type('x');
    }
    Due.due("clearText() of a full text", x.clearText(), 60);
    Due.due("there is room again", x.type('x'), 1);
    emptiesTheText();
    returnsTheLengthThatItHad();
    Due.finish();
  }
}
