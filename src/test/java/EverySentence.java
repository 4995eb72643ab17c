import java.io.IOException;
import java.nio.file.DirectoryStream;
import java.nio.file.Files;
import java.nio.file.Path;
import java.util.List;

/**
 * Runs behind all tests, with the folder of what they quoted: each sentence of the document must have been quoted, word by
 * word, by a test that passed. Titles alone need no test.
 */
public final class EverySentence {
  private static final String TITLE = "#.*|```.*|[A-Z][A-Z, ]+";

  private final String document = Due.document();
  private final boolean[] quoted = new boolean[document.length()];

  private void titles() throws IOException {
    int at = 0;
    for (String line : Files.readAllLines(Path.of("../shared/DOC.md"))) {
      String words = Due.asOneLine(line);
      if (!words.isEmpty()) {
        at = document.indexOf(words, at);
        Due.holds("the line is found: " + words, at >= 0);
        if (words.matches(TITLE)) {
          mark(at, at + words.length());
        }
        at += words.length();
      }
    }
  }

  private void mark(int from, int to) {
    for (int i = from; i < to; i++) {
      quoted[i] = true;
    }
  }

  private int quotes(Path folder) throws IOException {
    int files = 0;
    try (DirectoryStream<Path> found = Files.newDirectoryStream(folder)) {
      for (Path file : found) {
        files++;
        List<String> lines = Files.readAllLines(file);
        for (String line : lines) {
          int gap = line.indexOf(' ');
          mark(Integer.parseInt(line.substring(0, gap)), Integer.parseInt(line.substring(gap + 1)));
        }
      }
    }
    return files;
  }

  /** What joins two quotes, a comma or a colon, is no word. */
  private void askEachWord() {
    int from = 0;
    while (from < document.length()) {
      int to = from;
      while (to < document.length() && !quoted[to]) {
        to++;
      }
      String words = document.substring(from, to);
      Due.holds("a test quotes \"" + words + "\"", !words.matches("(?s).*[A-Za-z0-9].*"));
      from = to + 1;
    }
  }

  public static void main(String[] args) throws IOException {
    EverySentence sentences = new EverySentence();
    Due.holds("there is a document", !sentences.document.isEmpty());
    sentences.titles();
    Due.holds("there are quotes", sentences.quotes(Path.of(args[0])) > 0);
    sentences.askEachWord();
    Due.finish();
  }
}
