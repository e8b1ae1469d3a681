import java.lang.reflect.InvocationTargetException;
import java.lang.reflect.Method;
import java.lang.reflect.Modifier;
import java.nio.file.DirectoryStream;
import java.nio.file.Files;
import java.nio.file.Path;
import java.util.Arrays;
import java.util.regex.Matcher;
import java.util.regex.Pattern;

/** What README.md says of calls is so, and it names all of them and all tests. Runs from the project's root. */
public final class ReadmeTest {
  private static final Path README = Path.of("README.md");
  private static final Pattern CALL = Pattern.compile("(?m)^woods\\.(\\w+)\\((.*?)\\); +// (-?\\d+|true|false|\\w+Exception)\\b");

  public static void main(String[] args) throws Exception {
    Due due = new Due();
    String readme = Files.readString(README);
    calls(due, readme);
    names(due, readme);
    due.end();
  }

  private static void calls(Due due, String readme) throws Exception {
    Matcher told = CALL.matcher(readme);
    ForestCourts woods = new ForestCourts();
    int calls = 0;
    while (told.find()) {
      calls++;
      String got = answer(woods, told.group(1), told.group(2));
      due.holds(told.group() + ", answered " + got, got.equals(told.group(3)));
    }
    due.same("calls that tell an answer", calls, Pattern.compile("(?m)^woods\\.").matcher(readme).results().count());
    due.holds("there are some", calls > 0);
  }

  private static String answer(ForestCourts woods, String name, String list) throws Exception {
    Object[] a = list.isEmpty() ? new Object[0]
        : Arrays.stream(list.split(", ")).map(n -> (Object) Integer.decode(n)).toArray();
    for (Method method : ForestCourts.class.getDeclaredMethods()) {
      if (method.getName().equals(name) && method.getParameterCount() == a.length) {
        try {
          return String.valueOf(method.invoke(woods, a));
        } catch (InvocationTargetException e) {
          return e.getCause().getClass().getSimpleName();
        }
      }
    }
    return "no such call";
  }

  private static void names(Due due, String readme) throws Exception {
    for (Method method : ForestCourts.class.getDeclaredMethods()) {
      if (Modifier.isPublic(method.getModifiers())) {
        due.holds("names " + method.getName(), readme.contains("`" + method.getName() + "`"));
      }
    }
    for (Class<?> inside : ForestCourts.class.getDeclaredClasses()) {
      due.holds("names " + inside.getSimpleName(), readme.contains("| `" + inside.getSimpleName() + "` |"));
    }
    try (DirectoryStream<Path> files = Files.newDirectoryStream(Path.of("src/test/java"), "*Test.java")) {
      for (Path file : files) {
        String name = file.getFileName().toString().replace(".java", "");
        due.holds("names " + name, readme.contains("`" + name + "`"));
      }
    }
  }
}
