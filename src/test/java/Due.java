import java.util.function.IntToLongFunction;
import java.util.function.LongSupplier;

/** What all tests share: they count answers that are not due, and end with exit code 1 if there was one. */
final class Due {
  private int asked = 0;
  private int wrong = 0;
  private String about = "";

  /**
   * The answers from here on are held against these words of the document: of a promise, or of the terms (0).
   * SentencesTest looks whether the document has these words, and whether there are any that no test names.
   */
  void about(int promise, String words) {
    about = (promise == 0 ? "terms" : "promise " + promise) + ", \"" + words + "\": ";
  }

  void same(String call, long got, long want) {
    asked++;
    if (got != want) {
      wrong++;
      System.out.println(about + call + " answered " + got + ", due is " + want);
    }
  }

  void holds(String call, boolean got) {
    same(call, got ? 1 : 0, 1);
  }

  void fails(String call, boolean got) {
    same(call, got ? 1 : 0, 0);
  }

  void argument(String call, LongSupplier asks) {
    thrown(call, IllegalArgumentException.class, asks);
  }

  void index(String call, LongSupplier asks) {
    thrown(call, IndexOutOfBoundsException.class, asks);
  }

  void state(String call, LongSupplier asks) {
    thrown(call, IllegalStateException.class, asks);
  }

  /** Only these are arguments: the numbers next to them, and the least and greatest of all, are not. */
  void only(String call, int least, int most, IntToLongFunction asks) {
    for (int number : outside(least, most)) {
      argument(call + " " + number, () -> asks.applyAsLong(number));
    }
  }

  /** So many are there: those from 0 on are numbers of one, all others are not. */
  void numbered(String call, int size, IntToLongFunction asks) {
    for (int number : outside(0, size - 1)) {
      index(call + " " + number, () -> asks.applyAsLong(number));
    }
  }

  private static int[] outside(int least, int most) {
    return new int[] {least - 1, most + 1, Integer.MIN_VALUE, Integer.MAX_VALUE};
  }

  private void thrown(String call, Class<?> want, LongSupplier asks) {
    asked++;
    try {
      long got = asks.getAsLong();
      wrong++;
      System.out.println(about + call + " answered " + got + ", due is " + want.getSimpleName());
    } catch (RuntimeException e) {
      if (e.getClass() != want) {
        wrong++;
        System.out.println(about + call + " threw " + e + ", due is " + want.getSimpleName());
      }
    }
  }

  void end() {
    System.out.println(asked + " answers, " + wrong + " of them wrong");
    if (wrong != 0 || asked == 0) {
      System.exit(1);
    }
  }

  /** Asks for what a presentment is: of(p, 0), of(p, 1), so on. */
  void of(String call, ForestCourts x, int p, int... want) {
    for (int what = 0; what < want.length; what++) {
      same(call + ": of(" + p + ", " + what + ")", x.of(p, what), want[what]);
    }
  }

  static void feed(ForestCourts x, int... bytes) {
    for (int k = 0; k < bytes.length; k += 20) {
      int[] five = new int[5];
      for (int j = 0; j < 20; j++) {
        int b = k + j < bytes.length ? bytes[k + j] & 255 : 0;
        five[j / 4] = five[j / 4] << 8 | b;
      }
      x.feed(five[0], five[1], five[2], five[3], five[4]);
    }
  }

  static int ring(ForestCourts x, int day, int... marks) {
    feed(x, marks);
    return x.ring(day, marks.length);
  }

  /**
   * Marks at these places, x and y by turns, and their ring from day 0 on, whichever of them is its first one;
   * forwards, or backwards by a step of -1.
   */
  static int ringAt(ForestCourts x, int first, int step, int... places) {
    int n = places.length / 2;
    int[] row = new int[n];
    for (int k = 0; k < n; k++) {
      int at = Math.floorMod(first + step * k, n);
      row[k] = x.mark(k, places[2 * at], places[2 * at + 1]);
    }
    return ring(x, 0, row);
  }

  static int walk(ForestCourts x, int... names) {
    feed(x, names);
    return x.walk(names.length);
  }

  static int text(ForestCourts x, int day, String text) {
    feed(x, text.chars().toArray());
    return x.text(day, text.length());
  }

  /** Four marks and the square ring between them, from day 0 on. */
  static void square(ForestCourts x, int low, int high) {
    int first = x.count(1);
    x.mark(0, low, low);
    x.mark(1, high, low);
    x.mark(2, high, high);
    x.mark(3, low, high);
    ring(x, 0, first, first + 1, first + 2, first + 3);
  }

  /** A square ring from 100 to 900, a text, and people with so many coins, all of rank 0. */
  static ForestCourts woods(String text, int... coins) {
    ForestCourts x = new ForestCourts();
    square(x, 100, 900);
    text(x, 0, text);
    for (int c : coins) {
      x.person(0, c);
    }
    return x;
  }

  /** These woods with a warden: person 4, of weight 5 and share 10. */
  static ForestCourts wardened(String text, int... coins) {
    ForestCourts x = woods(text, coins);
    x.warden(4, 5, 10);
    return x;
  }

  /** A presentment of today by warden 0, with pledges 1 and 2, of a cutting in the square. */
  static int present(ForestCourts x, int person, int many) {
    return x.present(x.deed(person, 0, 500, 500, x.count(0), many), 0, 1, 2);
  }

  /** Waits for that day. */
  static void until(ForestCourts x, int day) {
    for (int k = 0; k < 26 && x.count(0) < day; k++) {
      x.wait(Math.min(4000, day - x.count(0)));
    }
  }
}
