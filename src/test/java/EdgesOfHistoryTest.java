import java.util.ArrayList;
import java.util.List;
import java.util.function.Consumer;
import java.util.function.ToIntFunction;

/** HISTORY: four states, one snapshot, what is an act, and what a state is made of. */
public final class EdgesOfHistoryTest {
  /** Three shift ends, a merged bus, four workers of whom one waits, two days; the snapshot is of the first day. */
  private static void busy(CountedBuses x) {
    x.addEnd(600);
    x.addEnd(620);
    x.addEnd(900);
    x.set(1, 2);
    x.book(0, 0, 3);
    x.book(0, 0, 5);
    x.book(0, 0, 1);
    x.book(1, 1, 9);
    x.merge(1, 0, 1);
    x.passDay();
    x.keep();
    x.set(1, 1);
    x.passDay();
    x.type('2');
    x.type('a');
    x.type('7');
  }

  private static CountedBuses busy() {
    CountedBuses x = new CountedBuses();
    busy(x);
    return x;
  }

  private static String stateAfter(Consumer<CountedBuses> done) {
    CountedBuses x = new CountedBuses();
    done.accept(x);
    return Due.stateOf(x);
  }

  // -- which calls are acts

  private record Call(String name, ToIntFunction<CountedBuses> made) {
  }

  private static List<Call> acts() {
    List<Call> acts = new ArrayList<>();
    acts.add(new Call("addEnd", x -> x.addEnd(700)));
    acts.add(new Call("book", x -> x.book(0, 0, 9)));
    acts.add(new Call("book of one who waits", x -> x.book(0, 0, 1)));
    acts.add(new Call("bookAll", x -> x.bookAll()));
    acts.add(new Call("takeBack of a rider", x -> x.takeBack(0)));
    acts.add(new Call("takeBack of one who waits", x -> x.takeBack(2)));
    acts.add(new Call("stay of a rider", x -> x.stay(0, 1)));
    acts.add(new Call("stay of one who waits", x -> x.stay(2, 1)));
    acts.add(new Call("part", x -> x.part(1, 0)));
    acts.add(new Call("part by the other one", x -> x.part(1, 1)));
    acts.add(new Call("set of 0", x -> x.set(0, 6)));
    acts.add(new Call("set of 1", x -> x.set(1, 6)));
    acts.add(new Call("set of 2", x -> x.set(2, 31)));
    acts.add(new Call("set of 3", x -> x.set(3, 91)));
    acts.add(new Call("passDay", x -> x.passDay()));
    acts.add(new Call("restore", x -> x.restore()));
    acts.add(new Call("merge", x -> x.merge(0, 1, 0)));
    return acts;
  }

  /** Two riders of one seat keep the line 0 from being merged; without one of them it can be. */
  private static void readyFor(Call call, CountedBuses x) {
    busy(x);
    if (call.name().equals("merge")) {
      x.takeBack(1);
      x.set(1, 2);
    }
  }

  private static void actsRecordTheStateBefore() {
    Due.sentence("Each call of a method that is described as an act, and returns no error and not NONE, records the state that"
        + " was before it.");
    for (Call call : acts()) {
      String before = stateAfter(x -> readyFor(call, x));
      String after = stateAfter(x -> {
        readyFor(call, x);
        Due.holds(call.name() + " is no error", call.made().applyAsInt(x) >= 0);
      });
      Due.holds(call.name() + " changes the state", !before.equals(after));
      String undone = stateAfter(x -> {
        readyFor(call, x);
        call.made().applyAsInt(x);
        Due.due("undo of " + call.name(), x.undo(), 3);
      });
      Due.holds("undo of " + call.name() + " brings back the state before", before.equals(undone));
    }
  }

  private static void oneStateForEachAct() {
    Due.sentence("records the state that was before it");
    CountedBuses x = new CountedBuses();
    Due.due("at first", x.count(16), 0);
    Due.due("addEnd", x.addEnd(600), 0);
    Due.due("after addEnd", x.count(16), 1);
    Due.due("book", x.book(0, 0, 1), 0);
    Due.due("after book", x.count(16), 2);
    Due.due("passDay", x.passDay(), 0);
    Due.due("after passDay", x.count(16), 3);
    Due.due("takeBack", x.takeBack(0), 0);
    Due.due("after takeBack", x.count(16), 4);

    CountedBuses y = Due.worksWithEnds(600);
    y.keep();
    Due.due("restore of the same state", y.restore(), 0);
    Due.due("is an act too", y.count(16), 2);
    Due.typeText(y, "0a12,0b3");
    Due.due("bookAll", y.bookAll(), 3);
    Due.due("is one act", y.count(16), 3);
    Due.due("undo", y.undo(), 2);
    Due.due("undo", y.undo(), 1);
  }

  private static void whatIsNoAct() {
    Due.sentence("Each call of a method that is described as an act, and returns no error and not NONE");
    CountedBuses x = Due.worksWithEnds(600, 700);
    x.book(0, 0, 1);
    Due.due("states", x.undo(), 2);
    x.keep();
    x.type('0');
    x.bookAll();
    x.clearText();
    x.set(1, 6);
    x.set(9, 6);
    x.addEnd(-1);
    x.book(2, 0, 1);
    x.takeBack(0);
    x.stay(0, 0);
    x.merge(0, 0, 1);
    x.merge(0, 0, 0);
    x.part(0, 0);
    x.worker(0, 0);
    x.bus(0, 0, 0);
    x.taken(0, 0, 1);
    x.why(0, 0, 1);
    x.spares(0, 0, 1);
    x.byMinute(0);
    Due.due("states after all that", x.count(16), 2);
    Due.due("undo is no act either", x.undo(), 1);
    Due.due("undo", x.undo(), 0);
    Due.due("undo", x.undo(), -5);
    Due.due("states", x.count(16), 0);
  }

  // -- four states

  /** Works that had so many acts, each of them one more shift end at the minute of its number. */
  private static CountedBuses withActs(int acts) {
    CountedBuses x = new CountedBuses();
    for (int i = 0; i < acts; i++) {
      x.addEnd(i);
    }
    return x;
  }

  private static void atMostFourStates() {
    Due.sentence("A history of at most 4 states is kept; when one more is recorded, the oldest one is dropped; undo() removes"
        + " and restores the latest one.");
    for (int acts = 0; acts <= 10; acts++) {
      CountedBuses x = withActs(acts);
      int kept = Math.min(4, acts);
      Due.due("states after " + acts + " acts", x.count(16), kept);
      for (int left = kept - 1; left >= 0; left--) {
        Due.due("undo after " + acts + " acts", x.undo(), left);
        Due.due("states that are left", x.count(16), left);
        Due.due("shift ends", x.count(0), acts - kept + left);
      }
      Due.due("one undo more", x.undo(), -5);
      Due.due("shift ends", x.count(0), acts - kept);
      Due.due("states", x.count(16), 0);
    }
  }

  private static void filledAgain() {
    Due.sentence("when one more is recorded, the oldest one is dropped");
    CountedBuses x = withActs(6);
    x.undo();
    x.undo(); // four shift ends, the states with two and three are left
    x.book(0, 0, 1);
    x.book(0, 0, 2);
    Due.due("four states", x.count(16), 4);
    x.book(0, 0, 3); // drops the state with two
    Due.due("four states", x.count(16), 4);
    int[] workers = {2, 1, 0, 0};
    int[] ends = {4, 4, 4, 3};
    for (int i = 0; i < 4; i++) {
      Due.due("undo", x.undo(), 3 - i);
      Due.due("workers", x.count(1), workers[i]);
      Due.due("shift ends", x.count(0), ends[i]);
    }
    Due.due("undo", x.undo(), -5);
    Due.due("shift ends", x.count(0), 3);
  }

  private static void undoneAndDoneAnew() {
    Due.sentence("undo() removes and restores the latest one");
    CountedBuses x = Due.worksWithEnds(600);
    for (int times = 0; times < 20; times++) {
      Due.due("book", x.book(0, times % 2, 1 + times % 9), 0);
      Due.due("the line", x.worker(0, 1), times % 2);
      Due.due("the stop", x.worker(0, 2), 1 + times % 9);
      Due.due("undo", x.undo(), 1);
      Due.due("nobody", x.worker(0, 2), -1);
    }
    Due.due("undo", x.undo(), 0);
    Due.due("no shift end", x.bus(0, 0, 0), -1);
    Due.due("another one in its place", x.addEnd(700), 0);
    Due.due("its minute", x.bus(0, 0, 0), 700);
  }

  /** What comes in the place of what was undone does not change what was kept of it. */
  private static void anotherOneInItsPlace() {
    Due.sentence("Restores the state of the snapshot, which stays.");
    CountedBuses x = Due.worksWithEnds(600, 620);
    x.book(0, 0, 3);
    x.merge(1, 0, 1);
    x.keep();
    for (int i = 0; i < 4; i++) {
      x.undo();
    }
    Due.due("another minute", x.addEnd(700), 0);
    Due.due("another line and stop", x.book(0, 1, 9), 0);
    Due.due("restore", x.restore(), 1);
    int[] told = {x.bus(0, 0, 0), x.bus(0, 1, 0), x.bus(1, 0, 1), x.worker(0, 1), x.worker(0, 2)};
    int[] due = {600, 620, 1, 0, 3};
    for (int i = 0; i < due.length; i++) {
      Due.due("restored, part " + i, told[i], due[i]);
    }
    Due.due("undo", x.undo(), 2);
    int[] undone = {x.bus(0, 0, 0), x.bus(0, 1, 0), x.bus(1, 0, 1), x.worker(0, 1), x.worker(0, 2)};
    int[] dueThen = {700, -1, -5, 1, 9};
    for (int i = 0; i < dueThen.length; i++) {
      Due.due("undone, part " + i, undone[i], dueThen[i]);
    }
  }

  // -- the snapshot

  private static void oneSnapshot() {
    Due.sentence("There is one snapshot, empty at first.");
    CountedBuses x = new CountedBuses();
    Due.due("restore at first", x.restore(), -5);
    x.addEnd(600);
    x.book(0, 0, 1);
    Due.due("restore still", x.restore(), -5);
    Due.due("states", x.count(16), 2);
    Due.due("keep", x.keep(), 1);
    x.book(0, 0, 2);
    Due.due("keep in place of the one that was", x.keep(), 2);
    x.book(0, 0, 3);
    Due.due("restore", x.restore(), 2);
    Due.due("restore again", x.restore(), 2);
    x.undo();
    x.undo();
    Due.due("undo of both", x.count(1), 3);
    Due.due("the snapshot stays", x.restore(), 2);
    for (int i = 0; i < 5; i++) {
      x.takeBack(i % 2);
      Due.due("some acts later", x.restore(), 2);
    }
  }

  private static void emptySnapshotIsOne() {
    Due.sentence("Takes a snapshot of the state, in place of the one that was.");
    CountedBuses x = new CountedBuses();
    Due.due("keep of new works", x.keep(), 0);
    Due.due("it is a snapshot", x.restore(), 0);
    Due.due("and restore an act", x.count(16), 1);
    x.addEnd(600);
    x.book(0, 0, 1);
    Due.due("restore", x.restore(), 0);
    Due.due("no shift end", x.count(0), 0);
    Due.due("undo", x.undo(), 3);
    Due.due("the shift end", x.count(0), 1);
    Due.due("the worker", x.count(1), 1);
    for (int w = 1; w < 30; w++) {
      x.book(0, 0, 1);
    }
    Due.due("keep of thirty", x.keep(), 30);
    x.takeBack(0);
    Due.due("keep of those who wait as well", x.keep(), 29);
    Due.due("restore of them", x.restore(), 29);
  }

  private static void snapshotIsACopy() {
    Due.sentence("Restores the state of the snapshot, which stays.");
    String kept = stateAfter(EdgesOfHistoryTest::busy);
    String restored = stateAfter(x -> {
      busy(x);
      x.keep();
      Consumer<CountedBuses> change = y -> {
        y.addEnd(5);
        y.passDay();
        y.takeBack(0);
        y.stay(1, 2);
        y.part(1, 1);
        y.set(0, 9);
        y.book(2, 1, 4);
      };
      change.accept(x);
      x.restore();
      change.accept(x);
      x.restore();
    });
    Due.holds("the snapshot is as it was kept, twice", kept.equals(restored));
  }

  // -- what a state is

  private static void everythingButTheText() {
    Due.sentence("A state is everything but the text, the history and the snapshot.");
    CountedBuses x = busy();
    Due.due("the text", x.count(17), 3);
    x.passDay();
    x.clearText();
    x.type('9');
    Due.due("undo", x.undo(), 3);
    Due.due("undo leaves the text", x.count(17), 1);
    Due.due("restore", x.restore(), 4);
    Due.due("restore leaves the text", x.count(17), 1);
    Due.due("restore adds to the history", x.count(16), 4);
    Due.due("the text is the one that was typed", x.bookAll(), -101);

    CountedBuses y = withActs(2);
    y.keep();
    y.addEnd(3);
    y.addEnd(4);
    y.restore();
    Due.due("the history is not in the snapshot", y.undo(), 3);
    Due.due("undo of restore", y.count(0), 4);
    y.keep();
    y.undo();
    y.undo();
    Due.due("the snapshot is not in the history", y.restore(), 0);
    Due.due("it is the later one", y.count(0), 4);
  }

  private static void allParts() {
    Due.sentence("A state is everything but the text, the history and the snapshot.");
    CountedBuses x = busy();
    Due.due("restore", x.restore(), 4);
    int[] ofFirstDay = {3, 4, 3, 1, 1, 1, 3, 0, 1, 30 + 38, 0, 5, 2, 30, 90, 4, 4, 3};
    for (int what = 0; what < ofFirstDay.length; what++) {
      Due.due("restored: count(" + what + ")", x.count(what), ofFirstDay[what]);
    }
    Due.due("undo", x.undo(), 3);
    int[] ofSecondDay = {3, 4, 3, 1, 1, 2, 5, 1, 2, 2 * (30 + 38), 17, 5, 1, 30, 90, 4, 3, 3};
    for (int what = 0; what < ofSecondDay.length; what++) {
      Due.due("undone: count(" + what + ")", x.count(what), ofSecondDay[what]);
    }
    Due.due("rides of the worker 0", x.worker(0, 6), 1);
    Due.due("taxis of the worker 0", x.worker(0, 7), 1);
    Due.due("walks of the worker 2", x.worker(2, 8), 2);
    x.restore();
    Due.due("restored: rides of the worker 0", x.worker(0, 6), 1);
    Due.due("restored: taxis of the worker 0", x.worker(0, 7), 0);
    Due.due("restored: walks of the worker 2", x.worker(2, 8), 1);
    Due.due("numbers go on from the state", x.book(0, 0, 1), 4);
  }

  /** Undo and restore bring promises back as they were, even such as would not be given now. */
  private static void promisesAsTheyWere() {
    Due.sentence("undo() removes and restores the latest one");
    CountedBuses x = Due.worksWithEnds(600);
    x.book(0, 0, 9);
    x.book(0, 0, 9);
    x.set(1, 1);
    x.keep();
    x.takeBack(0);
    Due.due("undo", x.undo(), 4 - 1);
    Due.due("two promises for one seat", x.count(2), 2);
    x.takeBack(1);
    x.restore();
    Due.due("two promises for one seat", x.count(2), 2);
    CountedBuses y = Due.worksWithEnds(600);
    y.set(1, 1);
    y.book(0, 0, 1);
    y.book(0, 0, 2);
    y.takeBack(0);
    Due.due("the second has the seat", y.worker(1, 3), 1);
    y.undo();
    Due.due("the first has it again", y.worker(0, 3), 1);
    Due.due("the second waits again", y.worker(1, 3), 0);
  }

  public static void main(String[] args) {
    actsRecordTheStateBefore();
    oneStateForEachAct();
    whatIsNoAct();
    atMostFourStates();
    filledAgain();
    undoneAndDoneAnew();
    anotherOneInItsPlace();
    oneSnapshot();
    emptySnapshotIsOne();
    snapshotIsACopy();
    everythingButTheText();
    allParts();
    promisesAsTheyWere();
    Due.finish();
  }
}
