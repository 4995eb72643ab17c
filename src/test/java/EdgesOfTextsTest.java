/** TEXTS: each place of the text with each character, texts that end too early, and the limits of length and bookings. */
public final class EdgesOfTextsTest {
  private static final String DIGITS = "0123456789";
  private static final String STOPS = "123456789";
  private static final String LINES = "ab";
  private static final String SIXTY = "0a12345,1b6789,2a12345,3b6789,4a12345,5b6789,6a1,7b2,8a3,9b4";

  private static CountedBuses tenEnds() {
    return Due.worksWithEnds(600, 610, 620, 630, 640, 650, 660, 670, 680, 690);
  }

  private static void due(CountedBuses x, String text, int want) {
    int bookings = x.count(15);
    int workers = x.count(1);
    Due.typeText(x, text);
    Due.due("bookAll() of \"" + text + "\"", x.bookAll(), want);
    Due.due("bookings so far after \"" + text + "\"", x.count(15), bookings + Math.max(0, want));
    Due.due("workers after \"" + text + "\"", x.count(1), workers + Math.max(0, want));
    Due.due("the length of \"" + text + "\"", x.count(17), text.length());
  }

  private static void lengthOfTheText() {
    Due.sentence("There is a text of at most 60 characters, empty at first.");
    CountedBuses x = new CountedBuses();
    Due.due("the length at first", x.count(17), 0);
    Due.due("the fault at first", x.bookAll(), -100);
    Due.due("clearText at first", x.clearText(), 0);
    for (int i = 1; i <= 60; i++) {
      Due.due("type", x.type('0'), i);
    }
    Due.due("the 61st", x.type('0'), -3);
    Due.due("the 61st again", x.type(','), -3);
    Due.due("the length of a full text", x.count(17), 60);
    Due.due("clearText of a full text", x.clearText(), 60);
    Due.due("clearText of an empty text", x.clearText(), 0);
    Due.due("there is room again", x.type('0'), 1);
  }

  private static void sixtyCharacters() {
    Due.sentence("Types a character behind the text.");
    Due.due("the characters", SIXTY.length(), 60);
    CountedBuses x = tenEnds();
    Due.typeText(x, SIXTY);
    Due.due("no more", x.type('1'), -3);
    Due.due("bookAll of all sixty, which are 31", x.bookAll(), -3);
    CountedBuses y = tenEnds();
    String fewer = SIXTY.substring(0, 56);
    due(y, fewer + ",911", -158);
    due(y, fewer + ",9b0", -159);
    due(tenEnds(), fewer + "456,", -160);
    due(tenEnds(), fewer + ",99b", -158);
    due(tenEnds(), fewer + "4,9b", -160);
    CountedBuses z = tenEnds();
    due(z, "0a1,1b2,2a3,3b4,4a5,5b6,6a7,7b8,8a9,9b1,0a2,1b3,2a4,3b5,4a67", 16);
    Due.due("the stop of the 60th character", z.worker(15, 2), 7);
    Due.due("one more after a booking", z.type('1'), -3);
  }

  /** What has been typed, which characters may follow so that more is due, and which make a whole text. */
  private static void place(String typed, String begins, String ends) {
    CountedBuses x = tenEnds();
    for (int c = 0; c < 300; c++) {
      char character = (char) (c < 260 ? c : '0' + 256 * (c - 250) + c % 60);
      if (x.calls() > 480) {
        x = tenEnds();
      }
      String text = typed + character;
      x.clearText();
      for (int i = 0; i < text.length(); i++) {
        x.type(text.charAt(i));
      }
      int answer = x.bookAll();
      String call = "bookAll() of \"" + typed + "\" and " + (int) character;
      if (ends.indexOf(character) >= 0) {
        Due.holds(call + " books", answer > 0);
        x.undo();
      } else {
        Due.due(call, answer, -100 - (begins.indexOf(character) >= 0 ? text.length() : typed.length()));
      }
    }
  }

  private static void eachPlace() {
    Due.sentence("a shift end (a digit, 0 to 9), \"a\" (the line 0) or \"b\" (the line 1), and one or more digits from 1 to 9"
        + " (the stops of that many workers)");
    place("", DIGITS, "");
    place("0", LINES, "");
    place("9", LINES, "");
    place("0a", "", STOPS);
    place("9b", "", STOPS);
    place("0a1", ",", STOPS);
    place("0b987654321", ",", STOPS);
    Due.sentence("A text of bookings is one or more bookings with \",\" between two");
    place("0a1,", DIGITS, "");
    place("0a1,0", LINES, "");
    place("0a1,1b", "", STOPS);
    place("0a12,9b99,5", LINES, "");
  }

  /** Behind a stop a stop makes the text whole, but a comma does not. */
  private static void behindAStop() {
    Due.sentence("one or more digits from 1 to 9");
    CountedBuses x = tenEnds();
    int workers = 0;
    for (int i = 0; i < STOPS.length(); i++) {
      due(x, "3b" + STOPS.charAt(i), 1);
      Due.due("the stop", x.worker(workers++, 2), i + 1);
    }
    due(x, "3b123456789", 9);
    for (int stop = 1; stop <= 9; stop++) {
      Due.due("the stop", x.worker(workers++, 2), stop);
    }
    due(x, "3b", -102);
    due(x, "3b,", -102);
    due(x, "3b10", -103);
    due(x, "3b1,", -104);
    due(x, "3b1,,", -104);
  }

  private static void placeOfTheFault() {
    Due.sentence("The fault of the text is the index, from 0, of the first character that is not allowed at its place, or the"
        + " length of the text if it ends too early (the empty text does).");
    String whole = "0a12,9b3,4a567";
    for (int length = 0; length <= whole.length(); length++) {
      CountedBuses x = tenEnds();
      String text = whole.substring(0, length);
      int seats = 0;
      boolean isWhole = text.matches("[0-9][ab][1-9]+(,[0-9][ab][1-9]+)*");
      for (String group : text.split(",")) {
        seats += Math.max(0, group.length() - 2);
      }
      due(x, text, isWhole ? seats : -100 - length);
      for (int at = 0; at < length; at++) {
        String faulty = text.substring(0, at) + '*' + text.substring(at + 1);
        Due.typeText(x, faulty);
        Due.due("bookAll() of \"" + faulty + "\"", x.bookAll(), -100 - at);
      }
    }
    CountedBuses y = tenEnds();
    due(y, "0a1*,c", -103);
    due(y, "*0a1", -100);
    due(y, "**", -100);
    Due.typeText(y, "0a111111111111111111111111111111111111111111111111111111111*");
    Due.due("the fault at 59", y.bookAll(), -159);
  }

  private static void linesOfTheText() {
    Due.sentence("\"a\" (the line 0) or \"b\" (the line 1)");
    CountedBuses x = tenEnds();
    due(x, "0a1,0b1", 2);
    Due.due("a", x.worker(0, 1), 0);
    Due.due("b", x.worker(1, 1), 1);
    for (int end = 0; end < 10; end++) {
      due(x, end + "a9", 1);
      Due.due("the shift end " + end, x.worker(2 + end, 0), end);
    }
  }

  private static void howManyTheTextHas() {
    Due.sentence("Returns how many the text has; -100 minus the fault of the text if it has one (which is an error); UNKNOWN if"
        + " a shift end is not there; FULL if more than 30 would have bookings.");
    due(tenEnds(), "0a1", 1);
    due(tenEnds(), "0a12", 2);
    due(tenEnds(), "0a1,0a1", 2);
    due(tenEnds(), "0a123,1b45,2a6", 6);
    due(tenEnds(), "0a111111111111111111111111111111", 30);
    due(tenEnds(), "0a1111111111111111111111111111111", -3);
    due(tenEnds(), "0a111111111111111,1b111111111111111", 30);
    due(tenEnds(), "0a1111111111111111,1b111111111111111", -3);
    due(tenEnds(), "0a1111111111111111111111111111111111111111111111111111111111", -3);
  }

  private static void shiftEndsOfTheText() {
    Due.sentence("UNKNOWN if a shift end is not there");
    for (int ends = 0; ends <= 9; ends++) {
      CountedBuses x = Due.worksWithEnds(java.util.Arrays.copyOf(new int[] {1, 2, 3, 4, 5, 6, 7, 8, 9}, ends));
      due(x, ends + "a1", -1);
      due(x, "9b1", -1);
      if (ends > 0) {
        due(x, (ends - 1) + "a1," + ends + "b1", -1);
        due(x, ends + "a1," + (ends - 1) + "b1", -1);
        due(x, (ends - 1) + "a1,0b1", 2);
        due(x, "0a1," + ends + "a1,0a1", -1);
      }
    }
  }

  /** A text that was read before leaves nothing behind, be it longer or shorter. */
  private static void eachTextAnew() {
    Due.sentence("Books the seats of the text, which stays, one after the other; all of them, or none.");
    CountedBuses x = Due.worksWithEnds(600);
    due(x, "0a1,9b2,0a3", -1);
    due(x, "0a4", 1);
    due(x, "0a5,0b67,9", -110);
    due(x, "0b8", 1);
    due(x, "0b123456789123456789123456789123", -3);
    due(x, "0a91", 2);
    int[][] of = {{0, 4}, {1, 8}, {0, 9}, {0, 1}};
    for (int w = 0; w < of.length; w++) {
      Due.due("the line of " + w, x.worker(w, 1), of[w][0]);
      Due.due("the stop of " + w, x.worker(w, 2), of[w][1]);
    }
  }

  private static void moreThanThirty() {
    Due.sentence("FULL if more than 30 would have bookings");
    for (int had = 27; had <= 30; had++) {
      for (int asked = 1; asked <= 4; asked++) {
        CountedBuses x = Due.worksWithEnds(600);
        for (int w = 0; w < had; w++) {
          x.book(0, w % 2, 1 + w % 9);
        }
        due(x, "0b" + "1234".substring(0, asked), had + asked > 30 ? -3 : asked);
      }
    }
    CountedBuses y = Due.worksWithEnds(600);
    for (int w = 0; w < 31; w++) {
      y.book(0, 0, 1);
      y.takeBack(w);
    }
    due(y, "0a111111111111111111111111111111", 30);
  }

  private static void oneAfterTheOther() {
    Due.sentence("Books the seats of the text, which stays, one after the other; all of them, or none.");
    CountedBuses x = Due.worksWithEnds(700, 600);
    x.set(1, 1);
    due(x, "0a93,1b8,1b1,0a1", 5);
    int[][] of = {{0, 0, 9, 1}, {0, 0, 3, 0}, {1, 1, 8, 1}, {1, 1, 1, 0}, {0, 0, 1, 0}};
    for (int w = 0; w < 5; w++) {
      for (int what = 0; what < 4; what++) {
        Due.due("worker(" + w + ", " + what + ")", x.worker(w, what), of[w][what]);
      }
    }
    CountedBuses late = Due.worksWithEnds(600);
    late.set(1, 1);
    late.set(3, 20);
    due(late, "0a541", 3);
    Due.due("the first is late", late.worker(0, 3), 0);
    Due.due("the second has the seat", late.worker(1, 3), 1);
    Due.due("the third finds it taken", late.worker(2, 3), 0);
  }

  private static void theTextStays() {
    Due.sentence("Books the seats of the text, which stays");
    CountedBuses x = Due.worksWithEnds(600);
    Due.typeText(x, "0a12");
    Due.due("bookAll", x.bookAll(), 2);
    Due.due("bookAll again", x.bookAll(), 2);
    Due.due("typed behind it", x.type('3'), 5);
    Due.due("bookAll of both", x.bookAll(), 3);
    int[] stops = {1, 2, 1, 2, 1, 2, 3};
    for (int w = 0; w < 7; w++) {
      Due.due("the stop of " + w, x.worker(w, 2), stops[w]);
    }
    Due.typeText(x, "1a1");
    Due.due("an error", x.bookAll(), -1);
    Due.due("the text stays", x.type('1'), 4);
    x.addEnd(700);
    Due.due("the text that stayed", x.bookAll(), 2);
  }

  private static void oneAct() {
    Due.sentence("This is one act.");
    CountedBuses x = Due.worksWithEnds(600);
    Due.typeText(x, "0a123,0b456");
    Due.due("bookAll", x.bookAll(), 6);
    Due.due("two states", x.count(16), 2);
    Due.due("undo", x.undo(), 1);
    Due.due("nobody is left", x.count(1), 0);
    Due.due("no number is given", x.count(15), 0);
  }

  public static void main(String[] args) {
    lengthOfTheText();
    sixtyCharacters();
    eachPlace();
    behindAStop();
    placeOfTheFault();
    linesOfTheText();
    howManyTheTextHas();
    shiftEndsOfTheText();
    eachTextAnew();
    moreThanThirty();
    oneAfterTheOther();
    theTextStays();
    oneAct();
    Due.finish();
  }
}
