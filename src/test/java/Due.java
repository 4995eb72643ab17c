import java.io.IOException;
import java.nio.file.Files;
import java.nio.file.Path;
import java.util.function.Consumer;

/** Counts the answers that are not due; a test ends with exit code 1 if there was one. */
final class Due {
  private static final int MOST_STATES = 4;

  private static int asked = 0;
  private static int wrong = 0;
  private static String sentence = "";
  private static String document = null;

  private Due() {
  }

  static void due(String call, long got, long want) {
    asked++;
    if (got != want) {
      wrong++;
      System.out.println(call + " answered " + got + ", due is " + want + sentence);
    }
  }

  static void holds(String what, boolean holds) {
    due(what, holds ? 1 : 0, 1);
  }

  static void finish() {
    if (asked == 0) {
      System.out.println("nothing was asked");
    }
    if (wrong != 0 || asked == 0) {
      System.exit(1);
    }
  }

  // -- sentences of the document

  /** What follows shows whether this sentence holds; that the document still says it is looked up. */
  static void sentence(String words) {
    sentence = " [" + words + "]";
    if (document == null) {
      document = readDocument();
    }
    holds("the document says \"" + words + "\"", document.isEmpty() || document.contains(asOneLine(words)));
  }

  /** Without the document nothing can be looked up, but the answers are due all the same. */
  private static String readDocument() {
    try {
      return asOneLine(Files.readString(Path.of("../shared/DOC.md")));
    } catch (IOException missing) {
      return "";
    }
  }

  private static String asOneLine(String words) {
    return words.replaceAll("\\s+", " ").trim();
  }

  // -- what the tests share

  /** Makes works with shift ends at these minutes. */
  static CountedBuses worksWithEnds(int... minutes) {
    CountedBuses works = new CountedBuses();
    for (int end = 0; end < minutes.length; end++) {
      due("addEnd(" + minutes[end] + ")", works.addEnd(minutes[end]), end);
    }
    return works;
  }

  static void typeText(CountedBuses works, String text) {
    works.clearText();
    for (int i = 0; i < text.length(); i++) {
      due("type in " + text, works.type(text.charAt(i)), i + 1);
    }
  }

  /** Tells the state, in few calls, so that states can be compared: the rest of the answers follows from these. */
  static String stateOf(CountedBuses works) {
    StringBuilder told = new StringBuilder("totals");
    for (int what = 0; what <= 15; what++) {
      told.append(' ').append(works.count(what));
    }
    int bookings = works.count(15);
    for (int worker = 0; worker < bookings; worker++) {
      int end = works.worker(worker, 0);
      told.append(" / ").append(end);
      for (int what = 1; what <= 8 && end >= 0; what++) {
        told.append(what == 4 || what == 5 ? "" : " " + works.worker(worker, what));
      }
    }
    int ends = works.count(0);
    for (int end = 0; end < ends; end++) {
      for (int line = 0; line < 2; line++) {
        told.append(" | ").append(works.bus(line, end, 0)).append(' ').append(works.bus(line, end, 1));
      }
    }
    return told.toString();
  }

  /** Tells the state, the text's length and the history's length. */
  static String allOf(CountedBuses works) {
    return stateOf(works) + ' ' + works.count(16) + ' ' + works.count(17);
  }

  /**
   * Tells the state, each state of the history, the snapshot and the text. What is done is done anew on an object of its
   * own for each part, since to look at one part spoils the others and takes calls.
   */
  static String whole(Consumer<CountedBuses> done) {
    StringBuilder told = new StringBuilder(allOf(after(done)));
    for (int undone = 1; undone <= MOST_STATES; undone++) {
      CountedBuses works = after(done);
      for (int i = 0; i < undone; i++) {
        told.append("\nundo ").append(works.undo());
      }
      told.append(' ').append(stateOf(works));
    }
    CountedBuses restored = after(done);
    told.append("\nrestore ").append(restored.restore()).append(' ').append(stateOf(restored));
    CountedBuses booked = after(done);
    told.append("\nbookAll ").append(booked.bookAll()).append(' ').append(stateOf(booked));
    return told.toString();
  }

  private static CountedBuses after(Consumer<CountedBuses> done) {
    CountedBuses works = new CountedBuses();
    done.accept(works);
    return works;
  }

  /** These calls, done behind those ones, leave nothing behind: not in the state, history, snapshot or text. */
  static void changesNothing(String what, Consumer<CountedBuses> done, Consumer<CountedBuses> calls) {
    holds(what + " changes nothing", whole(done).equals(whole(done.andThen(calls))));
  }
}
