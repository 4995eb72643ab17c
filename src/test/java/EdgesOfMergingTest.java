/** MERGING: each condition just kept and just broken, with merge and with spares, which ask the same. */
public final class EdgesOfMergingTest {
  private static final int NO = -4;

  /** Both ways round: what spares answers, then what merge answers. */
  private static void due(String what, CountedBuses x, int line, int end, int other, int spared, int start) {
    int pairs = x.count(4);
    Due.due("spares, " + what, x.spares(line, end, other), spared);
    Due.due("spares the other way round, " + what, x.spares(line, other, end), spared);
    Due.due("spares merges nothing, " + what, x.count(4), pairs);
    if (start == NO) {
      Due.due("merge the other way round, " + what, x.merge(line, other, end), start);
    }
    Due.due("merge, " + what, x.merge(line, end, other), start);
  }

  private static void ofOneLine() {
    Due.sentence("Two buses can be merged if they are of one line");
    CountedBuses x = Due.worksWithEnds(600, 610);
    x.merge(0, 0, 1);
    Due.due("the line 0", x.bus(0, 0, 1), 1);
    Due.due("the line 1", x.bus(1, 0, 1), -5);
    Due.due("the line 1", x.bus(1, 1, 0), 610);
    Due.due("the line 1", x.bus(1, 0, 0), 600);
    Due.due("pairs", x.count(4), 1);
    Due.due("part of the line 1", x.part(1, 0), -5);
    Due.due("part of the line 0", x.part(0, 0), 1);
  }

  private static void notMergedYet() {
    Due.sentence("not merged yet");
    CountedBuses x = Due.worksWithEnds(600, 600, 600);
    x.merge(0, 2, 0);
    due("merged already", x, 0, 0, 2, NO, NO);
    due("the first one is merged", x, 0, 0, 1, NO, NO);
    due("the second one is merged", x, 0, 1, 2, NO, NO);
    x.part(0, 0);
    due("parted", x, 0, 1, 2, 0, 600);
  }

  private static void asFarApartAsTold() {
    Due.sentence("at most so far apart as told");
    CountedBuses x = Due.worksWithEnds(600, 631, 569, 630, 570);
    due("31 later", x, 0, 0, 1, NO, NO);
    due("31 earlier", x, 0, 0, 2, NO, NO);
    due("30 later", x, 0, 0, 3, 0, 630);
    due("30 earlier", x, 1, 0, 4, 0, 600);
    x.set(2, 0);
    Due.due("a setting that became less parts nothing", x.bus(0, 0, 1), 3);
    Due.due("a setting that became less parts nothing", x.bus(1, 4, 0), 600);
    x.part(0, 0);
    due("but they are too far apart then", x, 0, 0, 3, NO, NO);
  }

  /** So many riders of both ends as told, with these stops; both buses have the seats for their own ones. */
  private static CountedBuses withRiders(int ofFirst, int ofSecond, int stopOfFirst, int stopOfSecond, int seats) {
    CountedBuses x = Due.worksWithEnds(600, 610);
    x.set(1, Math.max(seats, Math.max(ofFirst, ofSecond)));
    for (int w = 0; w < ofFirst + ofSecond; w++) {
      x.book(w < ofFirst ? 0 : 1, 0, w < ofFirst ? stopOfFirst : stopOfSecond);
    }
    x.set(1, seats);
    Due.due("riders", x.count(2), ofFirst + ofSecond);
    return x;
  }

  private static void notMoreThanTheSeats() {
    Due.sentence("if on no stretch the riders of both with promises are more than the seats");
    due("3 and 3 riders, 6 seats", withRiders(3, 3, 9, 9, 6), 0, 0, 1, 38, 610);
    due("3 and 4 riders, 6 seats", withRiders(3, 4, 9, 9, 6), 0, 0, 1, NO, NO);
    due("1 and 1, 1 seat", withRiders(1, 1, 9, 9, 1), 0, 0, 1, NO, NO);
    due("1 and 0, 1 seat", withRiders(1, 0, 9, 9, 1), 0, 0, 1, 0, 610);
    due("2 and 0, 1 seat", withRiders(2, 0, 9, 9, 1), 0, 0, 1, NO, NO);
    due("0 and 2, 1 seat", withRiders(0, 2, 9, 9, 1), 0, 0, 1, NO, NO);
    due("15 and 15, 30 seats", withRiders(15, 15, 4, 4, 30), 0, 0, 1, 28, 610);
    due("15 and 15, 29 seats", withRiders(15, 15, 4, 4, 29), 0, 0, 1, NO, NO);
    due("they meet on the first stretch alone, 2 seats", withRiders(1, 1, 1, 9, 2), 0, 0, 1, 22, 610);
    due("they meet on the first stretch alone, 1 seat", withRiders(1, 1, 1, 9, 1), 0, 0, 1, NO, NO);
    due("the other line has none", withRiders(5, 5, 9, 9, 5), 1, 0, 1, 0, 610);
  }

  private static void whoWaitsDoesNotMatter() {
    Due.sentence("the riders of both with promises");
    CountedBuses x = Due.worksWithEnds(600, 610);
    x.set(1, 2);
    for (int w = 0; w < 8; w++) {
      x.book(0, 0, 2); // two have seats
    }
    due("six wait", x, 0, 0, 1, 0, 610);
    CountedBuses y = Due.worksWithEnds(600, 610, 605);
    y.set(1, 2);
    y.book(0, 0, 2);
    y.book(1, 0, 2);
    for (int w = 0; w < 4; w++) {
      y.book(2, 0, 2);
      y.book(w % 2, 1, 2);
    }
    due("riders of another bus or line", y, 0, 0, 1, 24, 610);
  }

  /** One rider to the stop, of the earlier or the later end, so far apart; the time there is. */
  private static void dueInTime(int end, int apart, int stop, int most, boolean possible) {
    CountedBuses x = Due.worksWithEnds(600, 600 + apart);
    x.set(2, 120);
    x.book(end, 0, stop);
    x.set(3, most);
    Due.due("the promise", x.worker(0, 3), 1);
    String what = "a rider of " + end + " to " + stop + ", " + apart + " apart, " + most + " minutes";
    due(what, x, 0, 0, 1, possible ? 0 : NO, possible ? 600 + apart : NO);
  }

  private static void nobodyTooLate() {
    Due.sentence("and if no rider with a promise would come to the stop later than the setting 3 behind the own shift end");
    dueInTime(0, 30, 5, 55, true);
    dueInTime(0, 30, 5, 54, false);
    dueInTime(0, 30, 1, 35, true);
    dueInTime(0, 30, 1, 34, false);
    dueInTime(0, 120, 9, 165, true);
    dueInTime(0, 120, 9, 164, false);
    dueInTime(1, 120, 9, 45, true);
    dueInTime(1, 120, 9, 44, false);
    dueInTime(0, 0, 9, 45, true);
    dueInTime(0, 0, 9, 44, false);
    dueInTime(1, 0, 2, 10, true);
    dueInTime(0, 1, 2, 10, false);
    CountedBuses x = Due.worksWithEnds(600, 630);
    x.set(3, 40);
    x.book(0, 0, 9); // waits
    x.book(0, 1, 8); // is of the other line
    due("who waits or is of the other line may be late", x, 0, 0, 1, 0, 630);
    due("of the other line it is too late", x, 1, 0, 1, NO, NO);
    CountedBuses y = Due.worksWithEnds(600, 630);
    y.set(3, 60);
    for (int w = 0; w < 3; w++) {
      y.book(0, 0, w == 1 ? 7 : 1);
    }
    due("one of three is late", y, 0, 0, 1, NO, NO);
    y.takeBack(1);
    due("none of them", y, 0, 0, 1, 0, 630);
  }

  private static void startsAtTheLaterOne() {
    Due.sentence("Returns the minute at which the bus starts; UNKNOWN (line, end or other); BAD_VALUE if both are the same;"
        + " NOT_POSSIBLE if they cannot be merged.");
    CountedBuses x = Due.worksWithEnds(0, 1, 1439, 1439, 1438);
    Due.due("0 and 1", x.merge(0, 0, 1), 1);
    Due.due("1 and 0", x.merge(1, 1, 0), 1);
    Due.due("1439 and 1439", x.merge(0, 2, 3), 1439);
    Due.due("1439 and 1438", x.merge(1, 3, 4), 1439);
  }

  private static void partReturnsTheOther() {
    Due.sentence("Returns the other one of both; UNKNOWN (line or end); NONE if its bus is not merged.");
    CountedBuses x = Due.worksWithEnds(600, 600, 600);
    Due.due("not merged", x.part(0, 0), -5);
    x.merge(0, 0, 2);
    Due.due("not merged", x.part(0, 1), -5);
    Due.due("not merged on the other line", x.part(1, 0), -5);
    Due.due("by the number 0", x.part(0, 0), 2);
    x.merge(0, 0, 2);
    Due.due("by the number 2", x.part(0, 2), 0);
    Due.due("parted already", x.part(0, 2), -5);
  }

  private static void whatItSpares() {
    Due.sentence("Tells what merging two buses would spare: what both would cost today, less what the merged one would cost.");
    due("nobody rides", Due.worksWithEnds(600, 610), 0, 0, 1, 0, 610);
    for (int stop = 1; stop <= 9; stop++) {
      due("one bus goes, to " + stop, withRiders(1, 0, stop, stop, 6), 0, 0, 1, 0, 610);
      due("both go, to 4 and " + stop, withRiders(1, 1, stop, 4, 6), 0, 0, 1, 20 + 2 * Math.min(stop, 4), 610);
    }
  }

  public static void main(String[] args) {
    ofOneLine();
    notMergedYet();
    asFarApartAsTold();
    notMoreThanTheSeats();
    whoWaitsDoesNotMatter();
    nobodyTooLate();
    startsAtTheLaterOne();
    partReturnsTheOther();
    whatItSpares();
    Due.finish();
  }
}
