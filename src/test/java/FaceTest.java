import java.lang.reflect.Constructor;
import java.lang.reflect.Field;
import java.lang.reflect.Method;
import java.lang.reflect.Modifier;
import java.util.Arrays;
import java.util.Set;
import java.util.TreeSet;
import java.util.stream.Collectors;

/** The class has the document's face and nothing else that others can see (rules 1, 5 and 11 of the language). */
public final class FaceTest {
  private static final String[] FACE = {
    "int wait 1 IA IS", "int mark 3 IA IS", "int feed 5", "int ring 2 IA", "int unring 2 IO IA", "int strip 1 IA",
    "int bounds 1 IA", "int where 3 IA", "int walk 1 IA", "int walked 1", "int rivals 0", "int text 2 IA",
    "int fault 0", "boolean force 2 IO IA", "int rule 2 IA", "int person 2 IA IS", "int heir 2 IO IA", "int die 1 IO",
    "int told 2 IO IA", "int warden 3 IO IA", "int deed 6 IO IA", "boolean barred 1 IO", "int why 1 IO", "int fine 1 IO",
    "int present 4 IO", "int proof 2 IO IA", "int of 2 IO IA", "int claim 4 IO IA", "int use 3 IO IA", "int sure 2 IO IA",
    "int enter 3 IO IA", "int quarrel 0", "int joined 2 IA", "int lodge 4 IO IA", "int spot 3 IA", "int beats 0",
    "int beat 1 IO", "int wood 3 IA", "int take 4 IO IA", "int stock 4 IO IA", "int count 1"
  };

  public static void main(String[] args) throws Exception {
    Due due = new Due();
    due.same("NONE", ForestCourts.NONE, -1);
    due.same("final", ForestCourts.class.getModifiers(), Modifier.PUBLIC | Modifier.FINAL);
    Set<String> seen = new TreeSet<>();
    Set<String> hidden = new TreeSet<>();
    for (Method method : ForestCourts.class.getDeclaredMethods()) {
      if (Modifier.isPublic(method.getModifiers())) {
        seen.add(told(method));
      } else {
        due.holds(method + " is private", Modifier.isPrivate(method.getModifiers()));
        hidden.add(method.getName());
      }
    }
    Set<String> wanted = new TreeSet<>(Arrays.asList(FACE));
    due.same("the face is " + seen + "; it", seen.equals(wanted) ? 1 : 0, 1);
    for (String one : FACE) {
      due.fails(one + " is hidden too", hidden.contains(one.split(" ")[1]));
    }
    for (Constructor<?> made : ForestCourts.class.getDeclaredConstructors()) {
      due.holds(made + " is public", Modifier.isPublic(made.getModifiers()) && made.getParameterCount() == 0);
    }
    fields(due, ForestCourts.class);
    for (Class<?> inside : ForestCourts.class.getDeclaredClasses()) {
      int mods = inside.getModifiers();
      due.holds(inside + " is static", Modifier.isStatic(mods) && !Modifier.isPublic(mods) && !Modifier.isProtected(mods));
      fields(due, inside);
      for (Method method : inside.getDeclaredMethods()) {
        due.holds(method + " takes seven at most", method.getParameterCount() <= 7);
        due.fails(method + " has a name of the face", Arrays.stream(FACE).anyMatch(f -> f.split(" ")[1].equals(method.getName())));
      }
    }
    due.holds("classes", ForestCourts.class.getDeclaredClasses().length <= 12);
    due.end();
  }

  private static void fields(Due due, Class<?> of) {
    int own = 0;
    for (Field field : of.getDeclaredFields()) {
      int mods = field.getModifiers();
      if (Modifier.isStatic(mods)) {
        due.holds(field + " is final", Modifier.isFinal(mods));
      } else {
        own++;
      }
      boolean none = field.getName().equals("NONE");
      due.holds(field + " is hidden", of != ForestCourts.class || (none ? Modifier.isPublic(mods) : Modifier.isPrivate(mods)));
    }
    due.holds(of + " has twenty fields at most", own <= 20);
  }

  private static String told(Method method) {
    String thrown = Arrays.stream(method.getExceptionTypes())
        .map(e -> e == IllegalArgumentException.class ? "IA" : e == IndexOutOfBoundsException.class ? "IO" : "IS")
        .collect(Collectors.joining(" "));
    return (method.getReturnType() + " " + method.getName() + " " + method.getParameterCount() + " " + thrown).trim();
  }
}
