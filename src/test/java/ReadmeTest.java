import java.io.IOException;
import java.lang.reflect.Field;
import java.lang.reflect.Method;
import java.lang.reflect.Modifier;
import java.nio.file.Files;
import java.nio.file.Path;

/** README.md says how to use the class: its example answers what it tells, and no call or constant is left out. */
public final class ReadmeTest {
  /** The example of the page, line by line; what each line tells is looked up there. */
  private static void example(String page) {
    CountedBuses works = new CountedBuses();
    told(page, "int end = works.addEnd(900);", works.addEnd(900), 0);
    told(page, "int later = works.addEnd(920);", works.addEnd(920), 1);
    told(page, "int worker = works.book(end, 0, 3);", works.book(0, 0, 3), 0);
    told(page, "works.book(later, 0, 5);", works.book(1, 0, 5), 1);
    told(page, "works.worker(worker, 3);                // 1:", works.worker(0, 3), 1);
    told(page, "works.bus(0, end, 5);                   // 26:", works.bus(0, 0, 5), 26);
    told(page, "works.spares(0, end, later);            // 26:", works.spares(0, 0, 1), 26);
    told(page, "works.merge(0, end, later);             // 920:", works.merge(0, 0, 1), 920);
    told(page, "works.worker(worker, 4);                // 35:", works.worker(0, 4), 35);
    told(page, "works.passDay();                        // 0:", works.passDay(), 0);
    told(page, "works.count(9);                         // 30:", works.count(9), 30);
    told(page, "works.book(9, 0, 3);                    // ShiftBuses.UNKNOWN:", works.book(9, 0, 3), ShiftBuses.UNKNOWN);
  }

  private static void told(String page, String line, int got, int want) {
    Due.holds("README.md has the line " + line, page.contains(line));
    Due.due(line, got, want);
  }

  private static void text(String page) {
    CountedBuses works = Due.worksWithEnds(900, 920);
    Due.holds("README.md has the text", page.contains("`0a35,1b9` asks for three seats"));
    Due.typeText(works, "0a35,1b9");
    Due.due("bookAll", works.bookAll(), 3);
    Due.typeText(works, "x");
    Due.due("a fault at its first character", works.bookAll(), -100);
    Due.typeText(works, "0a3x");
    Due.due("one at its fourth", works.bookAll(), -103);
    Due.typeText(works, "0a3,");
    Due.due("the length of a text that ends too early", works.bookAll(), -104);
  }

  private static void settings(String page) {
    int[][] ranges = {{5, 1, 20}, {6, 1, 30}, {30, 0, 120}, {90, 10, 300}};
    for (int which = 0; which < ranges.length; which++) {
      int[] range = ranges[which];
      String row = "(?s).*\\| " + which + ": [^|]+ \\| " + range[0] + " \\| " + range[1] + " to " + range[2] + " \\|.*";
      Due.holds("README.md has a row for the setting " + which, page.matches(row));
      CountedBuses works = new CountedBuses();
      Due.due("at first", works.count(11 + which), range[0]);
      Due.due("the least", works.set(which, range[1]), range[0]);
      Due.due("the most", works.set(which, range[2]), range[1]);
    }
  }

  private static void callsAndConstants(String page) throws IllegalAccessException {
    for (Method method : ShiftBuses.class.getDeclaredMethods()) {
      if (Modifier.isPublic(method.getModifiers())) {
        Due.holds("README.md has a row for " + method.getName(), page.contains("\n| `" + method.getName() + "("));
      }
    }
    for (Field field : ShiftBuses.class.getFields()) {
      String row = "\n| `" + field.getName() + "` | " + field.getInt(null) + " |";
      Due.holds("README.md has a row for " + field.getName(), page.contains(row));
    }
  }

  private static void tests(String page) {
    Due.holds("README.md says how to run the tests", page.contains("## How to run the tests\n\n    .ci/run\n"));
    Due.holds("and that can be run", Files.isExecutable(Path.of(".ci/run")));
  }

  public static void main(String[] args) throws IOException, IllegalAccessException {
    String page = Files.readString(Path.of("README.md"));
    example(page);
    text(page);
    settings(page);
    callsAndConstants(page);
    tests(page);
    Due.finish();
  }
}
