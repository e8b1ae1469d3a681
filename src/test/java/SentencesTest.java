import java.nio.file.DirectoryStream;
import java.nio.file.Files;
import java.nio.file.Path;
import java.util.Map;
import java.util.TreeMap;
import java.util.regex.Matcher;
import java.util.regex.Pattern;

/**
 * Each sentence of the document's terms and promises is named by some test (Due.about), in the document's own words.
 * It tells which words no test speaks of; whether the tests that name them are good it can't tell. Runs from the root.
 */
public final class SentencesTest {
  private static final Path DOCUMENT = Path.of("../shared/DOC.md");
  private static final Path TESTS = Path.of("src/test/java");
  private static final int PROMISES = 42;

  /** The words of each promise; those of the terms are number 0. */
  private final Map<Integer, String> said = new TreeMap<>();
  private final Map<Integer, boolean[]> named = new TreeMap<>();

  public static void main(String[] args) throws Exception {
    Due due = new Due();
    SentencesTest test = new SentencesTest();
    test.readDocument(Files.readString(DOCUMENT));
    due.same("sections", test.said.size(), PROMISES + 1);
    try (DirectoryStream<Path> files = Files.newDirectoryStream(TESTS, "*Test.java")) {
      for (Path file : files) {
        test.readTest(due, file.getFileName().toString(), Files.readString(file));
      }
    }
    for (int number : test.said.keySet()) {
      String left = test.left(number);
      due.holds("no test names these words of " + number + ": " + left, left.isEmpty());
    }
    due.end();
  }

  private void readDocument(String document) {
    Matcher section = Pattern.compile("(?ms)^## (Terms|Promise (\\d+): [^\n]*)\n(.*?)(?=^## )").matcher(document);
    while (section.find()) {
      int number = section.group(2) == null ? 0 : Integer.parseInt(section.group(2));
      String words = section.group(3).replaceAll("```\\w*", " ").replaceAll("(?s)^\\s*`[^`]*`:", " ");
      words = words.replaceAll("={4} \\d\\.", " ").replaceAll("\\s+", " ").strip();
      said.put(number, words);
      named.put(number, new boolean[words.length()]);
    }
  }

  private void readTest(Due due, String file, String source) {
    String text = "\"(?:[^\"\\\\]|\\\\.)*\"";
    Matcher about = Pattern.compile("\\babout\\((\\d+), (" + text + "(?:\\s*\\+\\s*" + text + ")*)\\)").matcher(source);
    while (about.find()) {
      int number = Integer.parseInt(about.group(1));
      String words = about.group(2).replaceAll("(?<!\\\\)\"\\s*\\+\\s*\"", "");
      words = words.substring(1, words.length() - 1).replace("\\\"", "\"");
      due.holds(file + ": " + number + " says \"" + words + "\"", name(number, words));
    }
  }

  private boolean name(int number, String words) {
    String all = said.getOrDefault(number, "");
    boolean found = false;
    for (int at = all.indexOf(words); at >= 0 && !words.isEmpty(); at = all.indexOf(words, at + 1)) {
      found = true;
      for (int k = at; k < at + words.length(); k++) {
        named.get(number)[k] = true;
      }
    }
    return found;
  }

  /** The words that no test names; commas and the like between those that are named do not count. */
  private String left(int number) {
    StringBuilder left = new StringBuilder();
    for (int k = 0; k < said.get(number).length(); k++) {
      left.append(named.get(number)[k] ? '~' : said.get(number).charAt(k));
    }
    return left.toString().replaceAll("~[~ ,;:.]*~|^[ ,;:.]*~|~[ ,;:.]*$", "~").replaceAll("~+", " ~ ").replaceAll("^[ ~]*$", "");
  }
}
