/** Counts the answers that are not due; a test ends with exit code 1 if there was one. */
final class Due {
  private static int asked = 0;
  private static int wrong = 0;

  private Due() {
  }

  static void due(String call, long got, long want) {
    asked++;
    if (got != want) {
      wrong++;
      System.out.println(call + " answered " + got + ", due is " + want);
    }
  }

  static void holds(String what, boolean holds) {
    due(what, holds ? 1 : 0, 1);
  }

  static void finish() {
    if (asked == 0) {
      System.out.println("nothing was asked");
    }
    if (wrong != 0 || asked == 0) {
      System.exit(1);
    }
  }

  /** Makes works with shift ends at these minutes. */
  static ShiftBuses worksWithEnds(int... minutes) {
    ShiftBuses works = new ShiftBuses();
    for (int end = 0; end < minutes.length; end++) {
      due("addEnd(" + minutes[end] + ")", works.addEnd(minutes[end]), end);
    }
    return works;
  }

  static void typeText(ShiftBuses works, String text) {
    works.clearText();
    for (int i = 0; i < text.length(); i++) {
      due("type in " + text, works.type(text.charAt(i)), i + 1);
    }
  }

  /** Tells all that a call can tell of the works, but for the text and the history, so that states can be compared. */
  static String stateOf(ShiftBuses works) {
    StringBuilder told = new StringBuilder();
    for (int what = 0; what <= 15; what++) {
      told.append(works.count(what)).append(' ');
    }
    for (int worker = 0; worker < works.count(15); worker++) {
      for (int what = 0; what <= 8; what++) {
        told.append(works.worker(worker, what)).append(' ');
      }
    }
    for (int end = 0; end < works.count(0); end++) {
      told.append(works.byMinute(end)).append(' ');
      for (int line = 0; line < 2; line++) {
        for (int what = 0; what <= 5; what++) {
          told.append(works.bus(line, end, what)).append(' ');
        }
        for (int stop = 1; stop <= 9; stop++) {
          told.append(works.taken(line, end, stop)).append(' ');
          told.append(works.why(line, end, stop)).append(' ');
        }
        for (int other = 0; other < works.count(0); other++) {
          told.append(works.spares(line, end, other)).append(' ');
        }
      }
    }
    return told.toString();
  }

  /** Tells the state, the text's length and the history's length. */
  static String allOf(ShiftBuses works) {
    return stateOf(works) + works.count(16) + ' ' + works.count(17);
  }
}
