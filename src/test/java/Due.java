import java.io.IOException;
import java.nio.file.Files;
import java.nio.file.Path;
import java.util.function.Consumer;
import java.util.function.IntUnaryOperator;
import java.util.function.ToIntFunction;

/** Counts the answers that are not due; a test ends with exit code 1 if there was one. */
final class Due {
  /** Numbers that are no line; 256 and 65536 would be one if they were cut short. */
  static final int[] NO_LINES = {-1, 2, 3, 10, 256, 65536, -2, -5, Integer.MIN_VALUE, Integer.MAX_VALUE};
  static final int[] NO_STOPS = {0, -1, 10, 11, 257, 65537, -5, Integer.MIN_VALUE, Integer.MAX_VALUE};
  static final int[] NO_MINUTES = {-1, 1440, 1441, 2880, 65536, -5, Integer.MIN_VALUE, Integer.MAX_VALUE};
  /** Numbers of no shift end and of no worker, where there are at most three of them. */
  static final int[] NOBODY = {3, 4, -1, 9, 10, 30, 256, 65536, -2, -5, Integer.MIN_VALUE, Integer.MAX_VALUE};

  private static final int MOST_STATES = 4;

  private static int asked = 0;
  private static int wrong = 0;
  private static String sentence = "";
  private static String document = null;
  private static final StringBuilder quotes = new StringBuilder();

  private Due() {
  }

  static void due(String call, long got, long want) {
    asked++;
    if (got != want) {
      wrong++;
      System.out.println(call + " answered " + got + ", due is " + want + sentence);
    }
  }

  static void holds(String what, boolean holds) {
    due(what, holds ? 1 : 0, 1);
  }

  /** The same is due of a call with each of these arguments. */
  static void each(String call, int[] arguments, IntUnaryOperator made, int want) {
    for (int argument : arguments) {
      due(call + " " + argument, made.applyAsInt(argument), want);
    }
  }

  static void finish() {
    if (asked == 0) {
      System.out.println("nothing was asked");
    }
    if (wrong != 0 || asked == 0) {
      System.exit(1);
    }
    tellQuotes();
  }

  /** Where the property quotes names a file, it tells EverySentence what was quoted by a test that passed. */
  private static void tellQuotes() {
    String file = System.getProperty("quotes", "");
    if (file.isEmpty()) {
      return;
    }
    try {
      Files.writeString(Path.of(file), quotes);
    } catch (IOException failed) {
      System.out.println("the quotes can't be told to " + file);
      System.exit(1);
    }
  }

  // -- sentences of the document

  /** What follows shows whether this sentence holds; that the document still says it, once, is looked up. */
  static void sentence(String words) {
    quote(words, words, 0, document().length());
  }

  /** The same of a sentence of this promise, for what several promises say in the same words. */
  static void promise(int number, String words) {
    String heading = "## Promise " + number + ": ";
    int from = document().indexOf(heading);
    int next = document().indexOf(" ## ", from + heading.length());
    quote("promise " + number + ": " + words, words, from, next);
  }

  private static void quote(String told, String words, int from, int to) {
    sentence = " [" + told + "]";
    if (document().isEmpty()) {
      return;
    }
    String sought = asOneLine(words);
    int at = from < 0 || to < from ? -1 : document().indexOf(sought, from);
    boolean isThere = at >= 0 && at + sought.length() <= to;
    holds("the document says it", isThere);
    int again = document().indexOf(sought, at + 1);
    holds("the document says it once", isThere && (again < 0 || again + sought.length() > to));
    quotes.append(at).append(' ').append(at + sought.length()).append('\n');
  }

  /** Without the document nothing can be looked up, but the answers are due all the same. */
  static String document() {
    if (document == null) {
      try {
        document = asOneLine(Files.readString(Path.of("../shared/DOC.md")));
      } catch (IOException missing) {
        document = "";
      }
    }
    return document;
  }

  static String asOneLine(String words) {
    return words.replaceAll("\\s+", " ").trim();
  }

  // -- what the tests share

  /** What a call must do that is an act: it records the one state that was before it, and undo() restores that. */
  static void isAnAct(String call, Consumer<CountedBuses> done, ToIntFunction<CountedBuses> made) {
    CountedBuses x = after(done);
    int states = x.count(16);
    String before = stateOf(x);
    holds(call + " is no error", made.applyAsInt(x) >= 0);
    due("states after " + call, x.count(16), Math.min(MOST_STATES, states + 1));
    holds(call + " changes the state", !before.equals(stateOf(x)));
    due("undo of " + call, x.undo(), Math.min(MOST_STATES - 1, states));
    holds("undo of " + call + " restores the state before", before.equals(stateOf(x)));
  }

  /** Makes works with shift ends at these minutes. */
  static CountedBuses worksWithEnds(int... minutes) {
    CountedBuses works = new CountedBuses();
    for (int end = 0; end < minutes.length; end++) {
      due("addEnd(" + minutes[end] + ")", works.addEnd(minutes[end]), end);
    }
    return works;
  }

  static void typeText(CountedBuses works, String text) {
    works.clearText();
    for (int i = 0; i < text.length(); i++) {
      due("type in " + text, works.type(text.charAt(i)), i + 1);
    }
  }

  /** Tells the state, in few calls, so that states can be compared: the rest of the answers follows from these. */
  static String stateOf(CountedBuses works) {
    StringBuilder told = new StringBuilder("totals");
    for (int what = 0; what <= 15; what++) {
      told.append(' ').append(works.count(what));
    }
    int bookings = works.count(15);
    for (int worker = 0; worker < bookings; worker++) {
      int end = works.worker(worker, 0);
      told.append(" / ").append(end);
      for (int what = 1; what <= 8 && end >= 0; what++) {
        told.append(what == 4 || what == 5 ? "" : " " + works.worker(worker, what));
      }
    }
    int ends = works.count(0);
    for (int end = 0; end < ends; end++) {
      for (int line = 0; line < 2; line++) {
        told.append(" | ").append(works.bus(line, end, 0)).append(' ').append(works.bus(line, end, 1));
      }
    }
    return told.toString();
  }

  /** Tells the state, the text's length and the history's length. */
  static String allOf(CountedBuses works) {
    return stateOf(works) + ' ' + works.count(16) + ' ' + works.count(17);
  }

  /**
   * Tells the state, each state of the history, the snapshot and the text. What is done is done anew on an object of its
   * own for each part, since to look at one part spoils the others and takes calls.
   */
  static String whole(Consumer<CountedBuses> done) {
    StringBuilder told = new StringBuilder(allOf(after(done)));
    for (int undone = 1; undone <= MOST_STATES; undone++) {
      CountedBuses works = after(done);
      for (int i = 0; i < undone; i++) {
        told.append("\nundo ").append(works.undo());
      }
      told.append(' ').append(stateOf(works));
    }
    CountedBuses restored = after(done);
    told.append("\nrestore ").append(restored.restore()).append(' ').append(stateOf(restored));
    CountedBuses booked = after(done);
    told.append("\nbookAll ").append(booked.bookAll()).append(' ').append(stateOf(booked));
    return told.toString();
  }

  private static CountedBuses after(Consumer<CountedBuses> done) {
    CountedBuses works = new CountedBuses();
    done.accept(works);
    return works;
  }

  /** These calls, done behind those ones, leave nothing behind: not in the state, history, snapshot or text. */
  static void changesNothing(String what, Consumer<CountedBuses> done, Consumer<CountedBuses> calls) {
    holds(what + " changes nothing", whole(done).equals(whole(done.andThen(calls))));
  }
}
