import java.io.IOException;
import java.nio.file.Files;
import java.nio.file.Path;
import java.util.regex.Matcher;
import java.util.regex.Pattern;

/** What can be told from the text of the program about the rules of ../shared/LANGUAGE.md. */
public final class LanguageTest {
  private static final int MOST_LINES = 60;
  private static final int MOST_PARAMETERS = 7;
  private static final String[] RULED_OUT = {"\\bthrow\\b", "\\bthrows\\b", "\\btry\\b", "\\bcatch\\b", "\\bfinally\\b",
      "\\bsynchronized\\b", "\\bassert\\b", "\\bimport\\b", "\\bpackage\\b", "->", "::", "\\brecord\\b", "\\bprotected\\b",
      "\\bequals\\b", "\\bhashCode\\b", "\\btoString\\b", "\\bSystem\\b", "\\bThread\\b", "\\bObject\\b", "\\bdouble\\b",
      "\\bfloat\\b", "Exact\\b", "\\bnew [A-Za-z]+\\([^)]*\\) *\\{", "\\bstatic *\\{", "\\bvar\\b", "[/%](?!=)", "\""};

  private static String withoutComments(String source) {
    return source.replaceAll("(?s)/\\*.*?\\*/", "").replaceAll("//[^\n]*", "");
  }

  private static void ruledOut(String code) {
    // The one divisor of the program is the constant 2.
    String rest = code.replace("return tied / 2;", "");
    for (String pattern : RULED_OUT) {
      Matcher matcher = Pattern.compile(pattern).matcher(rest);
      Due.holds("the program has no " + pattern, !matcher.find());
    }
    for (int i = 0; i < code.length(); i++) {
      if (code.charAt(i) > 126) {
        Due.due("a sign that is not ASCII at " + i, code.charAt(i), 0);
      }
    }
  }

  private static void methodsAreShort(String code) {
    Matcher heads = Pattern.compile("(?m)^ +(?:[a-zA-Z\\[\\]]+ )*([a-zA-Z]+)\\(([^()]*)\\) \\{$").matcher(code);
    int methods = 0;
    while (heads.find()) {
      String name = heads.group(1);
      if (name.equals("if") || name.equals("for") || name.equals("switch") || name.equals("while")) {
        continue;
      }
      methods++;
      String parameters = heads.group(2);
      Due.holds(name + " has at most seven parameters", parameters.split(",").length <= MOST_PARAMETERS);
      String body = bodyFrom(code, heads.end());
      Due.holds(name + " is short", body.split("\n").length <= MOST_LINES);
      boolean isConstructor = Character.isUpperCase(name.charAt(0));
      Due.holds(name + " makes no object, for all rows are made once", isConstructor || !body.matches("(?s).*\\bnew\\b.*"));
    }
    Due.holds("methods were found: " + methods, methods > 60);
  }

  private static String bodyFrom(String code, int from) {
    int depth = 1;
    int i = from;
    while (i < code.length() && depth > 0) {
      char c = code.charAt(i);
      depth += c == '{' ? 1 : c == '}' ? -1 : 0;
      i++;
    }
    return code.substring(from, i);
  }

  public static void main(String[] args) throws IOException {
    String code = withoutComments(Files.readString(Path.of("src/main/java/ShiftBuses.java")));
    ruledOut(code);
    methodsAreShort(code);
    Due.finish();
  }
}
