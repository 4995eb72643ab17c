/** Promise 13: undo, and which calls record a state. */
public final class Promise13UndoTest {
  private static CountedBuses busyWorks() {
    CountedBuses x = Due.worksWithEnds(600, 620, 900);
    x.set(1, 2);
    x.book(0, 0, 3);
    x.book(0, 0, 5);
    x.book(0, 0, 1);
    x.book(1, 1, 9);
    x.merge(1, 0, 1);
    x.passDay();
    x.set(1, 1); // from now on one of the first two goes by taxi
    return x;
  }

  /** Does one act; answers what it answered. */
  private static int act(CountedBuses x, int which) {
    switch (which) {
      case 0: return x.addEnd(700);
      case 1: return x.book(0, 0, 9);
      case 2: return x.bookAll();
      case 3: return x.takeBack(0);
      case 4: return x.stay(0, 1);
      case 5: return x.merge(1, 0, 1);
      case 6: return x.part(1, 0);
      case 7: return x.set(1, 6);
      case 8: return x.passDay();
      case 9: return x.restore();
      default: return -1;
    }
  }

  private static void eachActIsUndone() {
    for (int which = 0; which < 10; which++) {
      CountedBuses x = busyWorks();
      x.keep();
      x.passDay();
      if (which == 5) {
        x.part(1, 1);
      }
      Due.typeText(x, "0b12,2a3");
      String before = Due.stateOf(x);
      Due.holds("act " + which + " is done", act(x, which) >= 0);
      Due.holds("act " + which + " changes the state", !before.equals(Due.stateOf(x)));
      Due.due("undo() of act " + which, x.undo(), 3);
      Due.holds("act " + which + " is undone", before.equals(Due.stateOf(x)));
      Due.due("the text is left alone", x.count(17), 8);
    }
  }

  /** What comes in the place of what was undone leaves nothing behind. */
  private static void otherThingsInItsPlace() {
    CountedBuses x = new CountedBuses();
    x.addEnd(600);
    x.book(0, 0, 3);
    x.undo();
    x.undo();
    x.addEnd(700);
    x.book(0, 1, 4);
    String before = Due.stateOf(x);
    Due.due("bus(1, 0, 0)", x.bus(1, 0, 0), 700);
    Due.due("worker(0, 1)", x.worker(0, 1), 1);
    x.keep();
    x.undo();
    x.undo();
    x.addEnd(800);
    x.book(0, 0, 9);
    x.restore();
    Due.holds("the snapshot has its own shift end and line", before.equals(Due.stateOf(x)));
    x.undo();
    Due.due("bus(0, 0, 0)", x.bus(0, 0, 0), 800);
    Due.due("worker(0, 1)", x.worker(0, 1), 0);
  }

  private static void atMostFourStates() {
    CountedBuses x = new CountedBuses();
    String[] states = new String[8];
    for (int i = 0; i < 7; i++) {
      states[i] = Due.stateOf(x);
      x.addEnd(100 + i);
      Due.due("count(16)", x.count(16), Math.min(4, i + 1));
    }
    for (int left = 3; left >= 0; left--) {
      Due.due("undo()", x.undo(), left);
      Due.holds("the latest state is restored", states[3 + left].equals(Due.stateOf(x)));
    }
    Due.due("the history is empty", x.undo(), -5);
    Due.holds("NONE changes nothing", states[3].equals(Due.stateOf(x)));
    x.addEnd(5);
    Due.due("it can be filled again", x.undo(), 0);
  }

  private static void whatIsNoAct() {
    CountedBuses x = busyWorks();
    x.undo();
    x.undo();
    x.keep();
    x.type('0');
    x.clearText();
    x.set(1, 2);
    x.stay(0, 0);
    x.part(0, 0);
    x.book(9, 0, 0);
    x.bookAll();
    Due.due("count(16)", x.count(16), 2);
    Due.due("undo() is no act", x.undo(), 1);
  }

  private static void removesAndRestoresTheLatest() {
    Due.promise(13, "`int undo()`: Removes and restores the latest state of the history.");
    CountedBuses x = Due.worksWithEnds(600);
    x.book(0, 0, 1);
    x.book(0, 0, 2);
    x.set(0, 9);
    Due.due("undo of set", x.undo(), 3);
    Due.due("the setting", x.count(11), 5);
    Due.due("the worker stays", x.worker(1, 2), 2);
    Due.due("undo of the second booking", x.undo(), 2);
    Due.due("the second worker", x.worker(1, 2), -1);
    Due.due("the first one stays", x.worker(0, 2), 1);
    Due.due("undo of the first booking", x.undo(), 1);
    Due.due("the first worker", x.worker(0, 2), -1);
    Due.due("the shift end stays", x.count(0), 1);
    Due.due("undo of addEnd", x.undo(), 0);
    Due.due("shift ends", x.count(0), 0);
  }

  private static void returnsHowManyAreLeft() {
    Due.promise(13, "Returns the number of states that are left; NONE if the history is empty.");
    CountedBuses x = new CountedBuses();
    Due.due("at first", x.undo(), -5);
    for (int acts = 1; acts <= 6; acts++) {
      for (int i = 0; i < acts; i++) {
        x.passDay();
      }
      for (int left = Math.min(4, acts) - 1; left >= 0; left--) {
        Due.due("undo after " + acts + " acts", x.undo(), left);
        Due.due("states", x.count(16), left);
      }
      Due.due("one undo more", x.undo(), -5);
    }
  }

  public static void main(String[] args) {
    eachActIsUndone();
    otherThingsInItsPlace();
    atMostFourStates();
    whatIsNoAct();
    removesAndRestoresTheLatest();
    returnsHowManyAreLeft();
    Due.finish();
  }
}
