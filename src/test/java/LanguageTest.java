import java.nio.file.Files;
import java.nio.file.Path;
import java.util.List;
import java.util.regex.Matcher;
import java.util.regex.Pattern;

/** What a look at the source tells of the language's rules: it finds slips, it proves nothing. Runs from the project's root. */
public final class LanguageTest {
  private static final String[] BARRED = {
    "->", "::", "\\bcatch\\b", "\\bfinally\\b", "\\bsynchronized\\b", "\\bassert\\b", "\\bvar\\b", "\\binstanceof\\b",
    "Exact\\b", "\\bpackage\\b", "\\bnative\\b", "while \\(true\\)", "for \\(;;\\)", "\\bSystem\\.(?!arraycopy)",
    "getMessage", "hashCode", "toString", "\\.equals\\(", "\\bdouble\\b", "\\bfloat\\b", "\\.\\.\\. "
  };

  public static void main(String[] args) throws Exception {
    Due due = new Due();
    List<String> lines = Files.readAllLines(Path.of("src/main/java/ForestCourts.java"));
    String code = String.join("\n", lines).replaceAll("(?s)/\\*.*?\\*/", "").replaceAll("//[^\n]*", "");
    for (String barred : BARRED) {
      due.fails("the source has " + barred, Pattern.compile(barred).matcher(code).find());
    }
    for (String line : lines) {
      due.fails("not ASCII: " + line, line.chars().anyMatch(c -> c > 126 || c < 32));
      due.fails("too long: " + line, line.length() > 120);
      if (line.startsWith("import")) {
        due.holds(line, line.equals("import java.util.Arrays;"));
      }
    }
    thrown(due, code);
    lengths(due, lines);
    due.end();
  }

  private static void thrown(Due due, String code) {
    Matcher thrown = Pattern.compile("throw new (\\w+)\\(\"[^\"]*\"\\);").matcher(code);
    int count = 0;
    while (thrown.find()) {
      count++;
      due.holds("throw new " + thrown.group(1),
          List.of("IllegalArgumentException", "IllegalStateException", "IndexOutOfBoundsException").contains(thrown.group(1)));
    }
    due.same("throws in that form", count, code.split("\\bthrow\\b", -1).length - 1);
  }

  /** A method begins with two or four blanks and ends with as many and a brace. */
  private static void lengths(Due due, List<String> lines) {
    int start = -1;
    String end = "";
    for (int k = 0; k < lines.size(); k++) {
      String line = lines.get(k);
      if (start < 0 && line.matches(" {2}( {2})?[\\w].*\\) (throws .*)?\\{")) {
        start = k;
        end = line.substring(0, line.length() - line.stripLeading().length()) + "}";
      } else if (start >= 0 && line.equals(end)) {
        due.holds("some sixty lines at most: " + lines.get(start), k - start < 62);
        start = -1;
      }
    }
    due.same("every method ends", start, -1);
  }
}
