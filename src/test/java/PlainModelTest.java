import java.lang.reflect.InvocationTargetException;
import java.lang.reflect.Method;
import java.util.Arrays;
import java.util.HashMap;
import java.util.Map;
import java.util.Random;
import java.util.TreeMap;

/** Random runs of calls, each answer held against the plain model. The seeds are fixed: all runs are alike. */
public final class PlainModelTest {
  private static final int CALLS = 512;
  private static final Map<String, Method> METHODS = new HashMap<>();

  private final Random random;
  private final ForestCourts x = new ForestCourts();
  private final ModelFace face = new ModelFace();
  private final Model m = face.model();
  private final StringBuilder run = new StringBuilder();
  private final RandomText texts;
  private final Map<String, Integer> answers;
  private int calls = 0;
  private boolean wrong = false;

  private PlainModelTest(long seed, Map<String, Integer> answers) {
    random = new Random(seed);
    texts = new RandomText(random);
    this.answers = answers;
  }

  public static void main(String[] args) throws Exception {
    for (Method method : ForestCourts.class.getDeclaredMethods()) {
      METHODS.put(method.getName(), method);
    }
    int runs = args.length > 0 ? Integer.parseInt(args[0]) : 600;
    int first = args.length > 1 ? Integer.parseInt(args[1]) : 1;
    Map<String, Integer> answers = new TreeMap<>();
    int wrong = 0;
    for (int seed = first; seed < first + runs && wrong < 3; seed++) {
      PlainModelTest test = new PlainModelTest(seed, answers);
      test.play();
      if (test.wrong) {
        wrong++;
        System.out.println("seed " + seed + ":\n" + test.run);
      }
    }
    if (args.length > 2) {
      System.out.println(answers);
    }
    System.out.println(runs + " runs, " + wrong + " wrong");
    if (wrong > 0) {
      System.exit(1);
    }
  }

  private void ask(String call, int... a) throws Exception {
    if (wrong || calls >= CALLS) {
      return;
    }
    calls++;
    String want = face.answer(call, a);
    String got;
    try {
      Object answer = METHODS.get(call).invoke(x, Arrays.stream(a).boxed().toArray());
      got = answer instanceof Boolean b ? b ? "1" : "0" : String.valueOf(answer);
    } catch (InvocationTargetException e) {
      got = e.getCause().getClass().getSimpleName();
    }
    String kind = want.startsWith("I") ? want : want.startsWith("-") ? want : "ok";
    answers.merge(call + " " + kind, 1, Integer::sum);
    run.append(call).append(Arrays.toString(a)).append(" ").append(got).append('\n');
    if (!got.equals(want)) {
      run.append("due is ").append(want).append('\n');
      wrong = true;
    }
  }

  private int below(int n) {
    return random.nextInt(Math.max(1, n));
  }

  /** A number of so many, now and then one that is none. */
  private int some(int size) {
    return below(60) == 0 ? (random.nextBoolean() ? -1 : size) : below(size);
  }

  /** From least to most, now and then just outside. */
  private int from(int least, int most) {
    int n = below(50);
    return n == 0 ? least - 1 : n == 1 ? most + 1 : n == 2 ? least : n == 3 ? most : least + below(most - least + 1);
  }

  private int day() {
    return switch (below(6)) {
      case 0 -> from(0, 100000);
      case 1 -> m.today;
      case 2 -> below(40);
      default -> below(m.today + 50);
    };
  }

  /** Places are few in most runs, so that they meet one another. */
  private int grid;

  private int at() {
    return below(80) == 0 ? from(0, 999) : below(12) == 0 ? below(1000) : below(7) * grid;
  }

  private void feedBytes(int... bytes) throws Exception {
    for (int k = 0; k < bytes.length; k += 20) {
      int[] five = new int[5];
      for (int j = 0; j < 20; j++) {
        five[j / 4] = five[j / 4] << 8 | (k + j < bytes.length ? bytes[k + j] & 255 : below(256));
      }
      ask("feed", five);
    }
  }

  private int[] rowOf(int n, int below) {
    int[] row = new int[n];
    for (int k = 0; k < n; k++) {
      row[k] = below(100) == 0 ? below(256) : below(below);
    }
    return row;
  }

  private void play() throws Exception {
    grid = random.nextBoolean() ? 10 + below(30) : 50 + below(117);
    int theme = below(6);
    begin(theme);
    // of a hundred calls: about the ground, texts, courts, presentments, claims, rolls and beats; the rest woods
    int[][] shares = {{70, 5, 10, 0, 5, 5}, {5, 55, 30, 5, 3, 1}, {2, 1, 57, 30, 5, 3}, {2, 3, 30, 5, 55, 3},
        {2, 1, 20, 30, 2, 44}, {3, 2, 20, 5, 5, 15}};
    while (calls < CALLS && !wrong) {
      int left = below(100);
      int kind = 0;
      while (kind < 6 && left >= shares[theme][kind]) {
        left -= shares[theme][kind];
        kind++;
      }
      switch (kind) {
        case 0: groundCall(); break;
        case 1: textCall(); break;
        case 2: courtCall(); break;
        case 3: presentCall(); break;
        case 4: claimCall(); break;
        case 5: rollAndBeatCall(); break;
        default: woodCall(); break;
      }
    }
  }

  /** A deed that is likely barred, presented with pledges who are likely good. */
  private void presentCall() throws Exception {
    int person = below(m.people.size());
    ask("deed", person, below(2), (1 + below(5)) * grid, below(5) * grid, below(m.today + 1), 1 + below(below(3) == 0 ? 1000 : 150));
    ask("present", m.deeds.size() - 1, some(m.wardens.size()), below(m.people.size()), below(m.people.size()));
    if (below(3) == 0) {
      ask("proof", m.presentments.size() - 1, from(-9, 9));
    }
    ask("wait", below(12));
  }

  private void begin(int theme) throws Exception {
    for (int k = 0; k < (theme == 0 ? 30 : 6); k++) {
      ask("mark", from(0, 6), at(), at());
    }
    if (theme != 0) {
      ask("mark", 10, 0, 0);
      ask("mark", 11, 6 * grid, 0);
      ask("mark", 12, 6 * grid, 5 * grid);
      ask("mark", 13, 0, 5 * grid);
      int n = m.marks.size();
      feedBytes(n - 4, n - 3, n - 2, n - 1);
      ask("ring", below(20), 4);
      for (int k = 0; k < 8; k++) {
        ask("person", from(0, 3), below(4) == 0 ? from(0, 1000000) : below(300));
      }
      ask("warden", some(m.people.size()), from(1, 9), from(0, 50));
      String text = "bar cut;bar hunt;courts " + (1 + below(9)) + " " + (1 + below(9)) + " " + (1 + below(20)) + ";use 2;";
      feedBytes(text.chars().toArray());
      ask("text", 0, text.length());
    }
  }

  private void groundCall() throws Exception {
    switch (below(12)) {
      case 0: case 1:
        ask("mark", from(0, 12), at(), at());
        break;
      case 2: case 3: {
        int n = below(20) == 0 ? below(13) : 3 + below(below(3) == 0 ? 8 : 3);
        feedBytes(rowOf(n, m.marks.size()));
        ask("ring", day(), below(30) == 0 ? from(0, m.tape.size()) : Math.min(n, m.tape.size()));
        break;
      }
      case 4:
        ask("unring", some(m.rings.size()), below(3) == 0 ? -1 : day());
        break;
      case 5:
        ask("strip", below(3) == 0 ? from(0, 100) : below(20));
        break;
      case 6:
        ask("bounds", day());
        break;
      case 7: case 8: case 9:
        ask("where", day(), at(), at());
        break;
      default: {
        int n = below(20) == 0 ? below(9) : 3 + below(below(4) == 0 ? 4 : 2);
        feedBytes(rowOf(n, 8));
        ask("walk", Math.min(n, m.tape.size()));
        ask("rivals");
        for (int k = -1; k <= n; k++) {
          ask("walked", k);
        }
        break;
      }
    }
  }

  private void textCall() throws Exception {
    switch (below(6)) {
      case 0: case 1: case 2: {
        if (m.texts.size() == 10 && below(5) > 0) {
          break;
        }
        String text = texts.next(m.texts.size());
        feedBytes(text.chars().toArray());
        ask("text", below(3) == 0 ? day() : below(m.today + 1), Math.min(text.length(), m.tape.size()));
        ask("fault");
        break;
      }
      case 3:
        ask("force", some(m.texts.size()), day());
        break;
      default:
        ask("rule", day(), from(0, 4));
        break;
    }
  }

  private void courtCall() throws Exception {
    switch (below(18)) {
      case 0:
        ask("person", from(0, 3), below(300));
        break;
      case 1: case 2:
        ask("heir", some(m.people.size()), below(8) == 0 ? -1 : some(m.people.size()));
        break;
      case 3:
        if (below(3) == 0) {
          ask("die", some(m.people.size()));
        }
        break;
      case 4:
        ask("told", some(m.people.size()), from(0, 3));
        break;
      case 5:
        if (below(3) == 0) {
          ask("warden", some(m.people.size()), from(1, 9), from(0, 50));
        }
        break;
      case 6: case 7: case 8:
        ask("deed", some(m.people.size()), below(3) == 0 ? from(0, 5) : below(2), at(), at(),
            below(40) == 0 ? m.today + 1 : below(m.today + 1), from(1, below(3) == 0 ? 1000 : 20));
        ask("barred", m.deeds.size() - 1);
        ask("why", m.deeds.size() - 1);
        ask("fine", m.deeds.size() - 1);
        break;
      case 9:
        ask("barred", some(m.deeds.size()));
        ask("why", some(m.deeds.size()));
        ask("fine", some(m.deeds.size()));
        break;
      case 10: case 11: case 12:
        ask("present", below(3) == 0 ? some(m.deeds.size()) : m.deeds.size() - 1 - below(3), some(m.wardens.size()),
            some(m.people.size()), some(m.people.size()));
        break;
      case 13:
        ask("proof", some(m.presentments.size()), from(-9, 9));
        break;
      case 14: case 15: {
        int p = some(m.presentments.size());
        for (int what = 0; what < 8; what++) {
          ask("of", p, what);
        }
        ask("of", p, from(0, 7));
        break;
      }
      case 16:
        ask("count", from(0, 13));
        ask("count", 8);
        break;
      default:
        ask("wait", below(60) == 0 ? from(0, 4000) : below(20) == 0 ? below(700) : below(30));
        break;
    }
  }

  private void claimCall() throws Exception {
    switch (below(6)) {
      case 0:
        ask("claim", some(m.people.size()), below(4) == 0 ? from(0, 5) : below(2), at(), at());
        break;
      case 1: case 2: case 3: {
        int claim = some(m.claims.size());
        int day = day();
        for (int k = 0; k < 4; k++) {
          ask("use", claim, below(20) == 0 ? from(0, 1) : 0, Math.max(0, day - below(300)));
          day -= 360;
        }
        break;
      }
      default:
        ask("sure", some(m.claims.size()), day());
        break;
    }
  }

  private void rollAndBeatCall() throws Exception {
    switch (below(14)) {
      case 0: case 1: case 2: case 3: case 4:
        ask("enter", below(40) == 0 ? from(0, 3) : below(4), some(Math.min(m.presentments.size(), 9)),
            below(3) == 0 ? from(0, 100000) : below(30));
        break;
      case 5:
        if (listed() < 7 || below(12) == 0) {
          ask("quarrel");
        }
        break;
      case 6:
        if (listed() < 7 || below(12) == 0) {
          ask("joined", below(9), below(50) == 0 ? from(0, 1) : 0);
          ask("joined", below(9) - 1, 1);
        }
        break;
      case 7: case 8:
        ask("lodge", some(m.wardens.size()), at(), at(), below(8) == 0 ? from(0, 4000) : below(14) * grid);
        break;
      case 9: case 10:
        if (m.spots.size() < 5 || below(4) == 0) {
          ask("spot", at(), at(), from(1, below(2) == 0 ? 5 : 1000));
        }
        break;
      case 11:
        ask("beats");
        break;
      default:
        if (m.spots.size() < 7 || below(6) == 0) {
          ask("beat", some(m.spots.size()));
        }
        break;
    }
  }

  private long listed() {
    return m.rolls.stream().flatMap(r -> r.stream()).map(Model.Entry::presentment).distinct().count();
  }

  private void woodCall() throws Exception {
    switch (below(6)) {
      case 0:
        ask("wood", below(3) == 0 ? from(0, 277) : below(20), below(2) == 0 ? from(0, 100000) : below(500),
            below(2) == 0 ? from(0, 100000) : below(100));
        break;
      case 1: case 2: case 3:
        ask("take", some(m.woods.size()), from(0, 1), below(3) == 0 ? from(0, 277) : below(40), from(1, below(2) == 0 ? 100000 : 60));
        break;
      default:
        ask("stock", some(m.woods.size()), from(0, 1), below(3) == 0 ? from(0, 277) : below(60), day());
        break;
    }
  }
}
