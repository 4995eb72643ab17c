/** Promise 11: type. */
public final class Promise11TypeTest {
  public static void main(String[] args) {
    CountedBuses x = Due.worksWithEnds(600);
    char[] any = {'0', 'a', (char) 0, (char) 255, (char) 65535, ' ', '\n'};
    for (int i = 0; i < any.length; i++) {
      Due.due("type of " + (int) any[i], x.type(any[i]), i + 1);
    }
    Due.due("behind the text", x.bookAll(), -102);
    for (int i = any.length; i < 60; i++) {
      Due.due("type('1')", x.type('1'), i + 1);
    }
    Due.due("type when there are 60", x.type('1'), -3);
    Due.due("count(17)", x.count(17), 60);
    Due.due("it is no act", x.count(16), 1);
    Due.due("undo()", x.undo(), 0);
    Due.due("undo() leaves the text", x.count(17), 60);

    CountedBuses y = Due.worksWithEnds(600);
    Due.typeText(y, "0a1");
    y.type('2');
    Due.due("what was typed is what is booked", y.bookAll(), 2);
    Due.due("in its order", y.worker(1, 2), 2);
    y.clearText();
    for (int i = 0; i < 60; i++) {
      y.type("0a1,".charAt(i % 4));
    }
    Due.due("type when there are 60", y.type('1'), -3);
    Due.due("and the text is as it was", y.bookAll(), -160);
    Due.finish();
  }
}
