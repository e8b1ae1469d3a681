import java.lang.reflect.InvocationTargetException;
import java.lang.reflect.Method;
import java.lang.reflect.Modifier;
import java.util.Arrays;
import java.util.Comparator;
import java.util.List;
import java.util.Random;

/** Wild runs: whatever the arguments are, a call throws just what its face declares, and never what the machine throws. */
public final class OnlyDeclaredTest {
  private static final int[] NUMBERS = {
    Integer.MIN_VALUE, Integer.MIN_VALUE + 1, -1001, -10, -9, -2, -1, 0, 0, 0, 1, 1, 2, 3, 4, 5, 6, 7, 8, 9, 10, 11, 12, 13, 19, 20, 39,
    40, 59, 60, 61, 99, 100, 101, 255, 277, 278, 360, 400, 401, 999, 1000, 1001, 3999, 4000, 4001, 99999, 100000, 100001,
    1000000, 1000001, 0x20202020, 0x62617220, 0x6375743b, 0x00010203, Integer.MAX_VALUE - 1, Integer.MAX_VALUE
  };

  public static void main(String[] args) throws Exception {
    Due due = new Due();
    List<Method> face = Arrays.stream(ForestCourts.class.getDeclaredMethods())
        .filter(m -> Modifier.isPublic(m.getModifiers())).sorted(Comparator.comparing(Method::getName)).toList();
    for (int seed = 0; seed < 400; seed++) {
      Random random = new Random(seed);
      ForestCourts x = new ForestCourts();
      if (seed % 4 > 0) {
        fill(x, random);
      }
      for (int k = 0; k < 350; k++) {
        Method method = face.get(random.nextInt(face.size()));
        Object[] a = new Object[method.getParameterCount()];
        for (int j = 0; j < a.length; j++) {
          a[j] = random.nextInt(3) == 0 ? random.nextInt(10) : NUMBERS[random.nextInt(NUMBERS.length)];
        }
        try {
          method.invoke(x, a);
        } catch (InvocationTargetException e) {
          Class<?> thrown = e.getCause().getClass();
          due.holds(method.getName() + Arrays.toString(a) + " threw " + e.getCause(),
              Arrays.asList(method.getExceptionTypes()).contains(thrown));
        }
      }
    }
    due.end();
  }

  private static void fill(ForestCourts x, Random random) {
    Due.square(x, 0, 999);
    for (int k = 0; k < 10; k++) {
      x.person(k % 4, k * 10);
      x.heir(k, k == 0 ? -1 : random.nextInt(k));
    }
    x.warden(0, 5, 10);
    x.warden(1, 9, 50);
    Due.text(x, 0, "bar cut if many>0;fine cut=many*9999*9999/(many-5);courts 1 2 3;use 1;");
    for (int k = 0; k < 12; k++) {
      x.deed(random.nextInt(10), 0, 10 * k, 10 * k, 0, 1 + k);
      x.present(k, k % 2, random.nextInt(10), random.nextInt(10));
      x.spot(k, k, 1 + k);
    }
    x.claim(0, 0, 5, 5);
    x.wood(0, 1000, 100);
    x.lodge(0, 5, 5, 50);
  }
}
