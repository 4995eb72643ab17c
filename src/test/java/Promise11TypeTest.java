/** Promise 11: type. */
public final class Promise11TypeTest {
  private static void behindTheText() {
    Due.promise(11, "`int type(char character)`: Types a character behind the text.");
    CountedBuses x = Due.worksWithEnds(600);
    int[] due = {-101, -102, 1, 2, -105, -106, -107, 3};
    String text = "0a12,0b3";
    for (int i = 0; i < text.length(); i++) {
      Due.due("type", x.type(text.charAt(i)), i + 1);
      Due.due("bookAll of \"" + text.substring(0, i + 1) + "\"", x.bookAll(), due[i]);
    }
    int[][] of = {{0, 1}, {0, 1}, {0, 2}, {0, 1}, {0, 2}, {1, 3}};
    for (int w = 0; w < of.length; w++) {
      Due.due("the line of " + w, x.worker(w, 1), of[w][0]);
      Due.due("the stop of " + w, x.worker(w, 2), of[w][1]);
    }
  }

  /** Each of the 65536 characters is taken; a few of them are allowed at their place, and no other one passes for them. */
  private static void anyCharacter() {
    Due.promise(11, "- `character`: any character");
    CountedBuses x = Due.worksWithEnds(600);
    for (int c = Character.MIN_VALUE; c <= Character.MAX_VALUE; c++) {
      if (x.calls() > 500) {
        x = Due.worksWithEnds(600);
      }
      x.clearText();
      Due.due("type of " + c, x.type((char) c), 1);
      Due.due("bookAll of the character " + c, x.bookAll(), c >= '0' && c <= '9' ? -101 : -100);
    }
  }

  private static void returnsTheLength() {
    Due.promise(11, "Returns the length of the text then; FULL if it has 60 characters.");
    CountedBuses x = Due.worksWithEnds(600);
    for (int round = 0; round < 2; round++) {
      for (int length = 1; length <= 60; length++) {
        Due.due("type", x.type((char) (length * 31)), length);
        Due.due("count(17)", x.count(17), length);
      }
      Due.due("type in a full text", x.type('1'), -3);
      Due.due("type in a full text", x.type((char) 0), -3);
      Due.due("clearText", x.clearText(), 60);
    }
  }

  public static void main(String[] args) {
    CountedBuses x = Due.worksWithEnds(600);
    char[] any = {'0', 'a', (char) 0, (char) 255, (char) 65535, ' ', '\n'};
    for (int i = 0; i < any.length; i++) {
      Due.due("type of " + (int) any[i], x.type(any[i]), i + 1);
    }
    Due.due("behind the text", x.bookAll(), -102);
    for (int i = any.length; i < 60; i++) {
      Due.due("type('1')", x.type('1'), i + 1);
    }
    Due.due("type when there are 60", x.type('1'), -3);
    Due.due("count(17)", x.count(17), 60);
    Due.due("it is no act", x.count(16), 1);
    Due.due("undo()", x.undo(), 0);
    Due.due("undo() leaves the text", x.count(17), 60);

    CountedBuses y = Due.worksWithEnds(600);
    Due.typeText(y, "0a1");
    y.type('2');
    Due.due("what was typed is what is booked", y.bookAll(), 2);
    Due.due("in its order", y.worker(1, 2), 2);
    y.clearText();
    for (int i = 0; i < 60; i++) {
      y.type("0a1,".charAt(i % 4));
    }
    Due.due("type when there are 60", y.type('1'), -3);
    Due.due("and the text is as it was", y.bookAll(), -160);
    behindTheText();
    anyCharacter();
    returnsTheLength();
    Due.finish();
  }
}
