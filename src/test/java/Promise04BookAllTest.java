/** Promise 4: bookAll. */
public final class Promise04BookAllTest {
  private static void due(CountedBuses x, String text, int want) {
    Due.typeText(x, text);
    int bookings = x.count(15);
    Due.due("bookAll() of \"" + text + "\"", x.bookAll(), want);
    Due.due("all of \"" + text + "\", or none", x.count(15), bookings + Math.max(0, want));
    Due.due("the text stays", x.count(17), text.length());
  }

  private static void faults() {
    String[] faulty = {"", "0", "0a", "0a1,", "0a1,1", "0a1,1b", "a", "00", "0c", "0A1", "0a0", "0aa", "0a,", "0a1a", "0a10",
        "0a1 ", ",0a1", "0a1,,", "0a1,a", "0a1;0a1", "-1a1", "0a1,1b0", " 0a1", "0b1231a4"};
    int[] at = {0, 1, 2, 4, 5, 6, 0, 1, 1, 1, 2, 2, 2, 3, 3, 3, 0, 4, 4, 3, 0, 6, 0, 6};
    for (int i = 0; i < faulty.length; i++) {
      due(Due.worksWithEnds(600, 700), faulty[i], -100 - at[i]);
    }
    CountedBuses x = Due.worksWithEnds(600, 700);
    due(x, "0a1" + (char) 256, -103);
    due(x, "0" + (char) ('a' + 256) + "1", -101);
    due(x, "" + (char) 0x0660, -100);
    due(x, "9a1,0", -105);
    due(x, "0a111111111122222222223333333333444444444455555555556666666,", -160);
  }

  private static void booksAll() {
    CountedBuses x = Due.worksWithEnds(600, 700);
    due(x, "1b39,0a5", 3);
    int[][] of = {{1, 1, 3, 1}, {1, 1, 9, 1}, {0, 0, 5, 1}};
    for (int w = 0; w < 3; w++) {
      for (int what = 0; what < 4; what++) {
        Due.due("worker(" + w + ", " + what + ")", x.worker(w, what), of[w][what]);
      }
    }
    Due.due("it is one act", x.count(16), 3);
    Due.due("the text may be booked again", x.bookAll(), 3);
    Due.due("count(15)", x.count(15), 6);
    Due.due("undo()", x.undo(), 3);
    Due.due("all are gone by one undo()", x.count(1), 3);

    due(x, "0b1111111", 7);
    Due.due("one after the other: the sixth has a seat", x.worker(8, 3), 1);
    Due.due("the seventh waits", x.worker(9, 3), 0);
    due(x, "0b1,9a1", -1);
    due(x, "2b1", -1);
  }

  private static void fullOrNot() {
    CountedBuses x = Due.worksWithEnds(600);
    String twenty = "0a11111111112222222222";
    due(x, twenty, 20);
    due(x, "0a11111,0b555555", -3);
    due(x, "0a11111,0b55555", 10);
    due(x, "0a1", -3);
    due(x, "1a1", -1);
    due(x, "1a1,", -104);
    CountedBuses y = Due.worksWithEnds(600);
    due(y, "0a1111111111222222222233333333334", -3);
    due(y, "1a1111111111222222222233333333334", -1);
    due(y, "0a111111111122222222223333333333", 30);
    Due.due("count(1)", y.count(1), 30);
  }

  private static final int[][] BOOKED = {{1, 1, 3}, {1, 1, 9}, {0, 0, 5}, {2, 0, 1}, {2, 0, 1}, {2, 0, 2}, {1, 1, 1}};

  private static void worksToBookIn(CountedBuses x) {
    x.addEnd(600);
    x.addEnd(700);
    x.addEnd(800);
    x.set(1, 2);
  }

  /** The same as so many calls of book in the same order. */
  private static void booksTheSeatsOfTheText() {
    Due.promise(4, "`int bookAll()`: Books the seats of the text, which stays, one after the other; all of them, or none.");
    CountedBuses one = new CountedBuses();
    worksToBookIn(one);
    for (int[] a : BOOKED) {
      one.book(a[0], a[1], a[2]);
    }
    CountedBuses all = new CountedBuses();
    worksToBookIn(all);
    due(all, "1b39,0a5,2a112,1b1", BOOKED.length);
    Due.holds("the same as one after the other", Due.stateOf(one).equals(Due.stateOf(all)));
    Due.due("two of seven wait", all.count(3), 2);
    String before = Due.stateOf(all);
    due(all, "0a1,1b2,3a3", -1);
    due(all, "0a1,1b2,2a3,", -112);
    due(all, "0a111111111111111111111111", -3);
    Due.holds("none of them", before.equals(Due.stateOf(all)));
  }

  private static void isOneAct() {
    Due.promise(4, "This is one act.");
    Due.isAnAct("bookAll", x -> {
      worksToBookIn(x);
      for (char character : "1b39,0a5,2a112".toCharArray()) {
        x.type(character);
      }
    }, CountedBuses::bookAll);
    Due.isAnAct("bookAll of one seat", x -> {
      x.addEnd(600);
      x.type('0');
      x.type('b');
      x.type('9');
    }, CountedBuses::bookAll);
  }

  public static void main(String[] args) {
    faults();
    booksAll();
    fullOrNot();
    booksTheSeatsOfTheText();
    isOneAct();
    Due.finish();
  }
}
