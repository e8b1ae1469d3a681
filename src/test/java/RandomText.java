import java.util.List;
import java.util.Random;

/** Texts by the grammar, some of them hurt at one place. */
final class RandomText {
  private final Random random;
  private final StringBuilder out = new StringBuilder();

  RandomText(Random random) {
    this.random = random;
  }

  String next(int texts) {
    out.setLength(0);
    int clauses = random.nextInt(12) == 0 ? 11 + random.nextInt(4) : random.nextInt(7);
    for (int k = 0; k < clauses && out.length() < 320; k++) {
      clause(texts, clauses > 10);
      put(";");
    }
    blanks();
    if (random.nextInt(3) == 0) {
      hurt();
    }
    if (out.length() > 400) {
      out.setLength(400);
    }
    return out.toString();
  }

  private void hurt() {
    String signs = " ;()[]<>=+-*/,0123456789abcdefghijklmnopqrstuvwxyzA_\u00e9\u0000";
    char sign = signs.charAt(random.nextInt(signs.length()));
    int at = random.nextInt(out.length() + 1);
    switch (random.nextInt(4)) {
      case 0: out.insert(at, sign); break;
      case 1: if (at < out.length()) { out.deleteCharAt(at); } break;
      case 2: if (at < out.length()) { out.setCharAt(at, sign); } break;
      default: out.setLength(at); break;
    }
  }

  private void blanks() {
    int n = random.nextInt(8) == 0 ? random.nextInt(3) : 0;
    out.append(" ".repeat(n));
  }

  /** A blank stands between two words or two numbers, and elsewhere now and then. */
  private void put(String token) {
    blanks();
    boolean word = Character.isLetterOrDigit(token.charAt(0));
    boolean behind = out.length() > 0 && Character.isLetterOrDigit(out.charAt(out.length() - 1));
    boolean mixed = behind && Character.isDigit(token.charAt(0)) != Character.isDigit(out.charAt(out.length() - 1));
    if (word && behind && (!mixed || random.nextBoolean())) {
      out.append(' ');
    }
    out.append(token);
  }

  private String one(String... of) {
    return of[random.nextInt(of.length)];
  }

  private void clause(int texts, boolean small) {
    switch (small ? 6 + random.nextInt(2) : random.nextInt(9)) {
      case 0: case 1: case 8:
        put(one("bar", "bar", "allow"));
        act();
        if (random.nextBoolean()) {
          put("if");
          condition(0);
        }
        break;
      case 2:
        put("strike");
        act();
        break;
      case 3:
        put("fine");
        act();
        put("=");
        sum(0);
        break;
      case 4:
        put("undo");
        number(random.nextInt(texts + (random.nextInt(6) == 0 ? 2 : 1)));
        break;
      case 5:
        put("heirs");
        put(one("owe", "free"));
        break;
      case 6:
        put("courts");
        for (int k = 0; k < 3; k++) {
          number(random.nextInt(25) == 0 ? one(0, 4000, 4001) : 1 + random.nextInt(40));
        }
        break;
      default:
        put("use");
        number(random.nextInt(15) == 0 ? one(0, 60, 61, 99999) : 1 + random.nextInt(5));
        break;
    }
  }

  private int one(int... of) {
    return of[random.nextInt(of.length)];
  }

  private void act() {
    put(random.nextInt(3) > 0 ? one("cut", "hunt") : one("cut", "hunt", "dogs", "swine", "clear", "build"));
  }

  private void number(int n) {
    put((random.nextInt(10) == 0 ? "0".repeat(random.nextInt(3)) : "") + n);
  }

  private void condition(int depth) {
    both(depth);
    while (random.nextInt(4) == 0 && out.length() < 330) {
      put("or");
      both(depth);
    }
  }

  private void both(int depth) {
    test(depth);
    while (random.nextInt(4) == 0 && out.length() < 330) {
      put("and");
      test(depth);
    }
  }

  private void test(int depth) {
    int kind = depth > 9 || out.length() > 330 ? 9 : random.nextInt(depth > 0 ? 5 : 7);
    if (kind == 0) {
      put("not");
      test(depth + 1);
    } else if (kind <= 2) {
      put("[");
      condition(depth + 1);
      put("]");
    } else {
      sum(depth);
      put(one("<", ">", "="));
      sum(depth);
    }
  }

  private void sum(int depth) {
    product(depth);
    while (random.nextInt(4) == 0 && out.length() < 330) {
      put(one("+", "-"));
      product(depth);
    }
  }

  private void product(int depth) {
    value(depth);
    while (random.nextInt(4) == 0 && out.length() < 330) {
      put(one("*", "/"));
      value(depth);
    }
  }

  private void value(int depth) {
    int kind = depth > 9 || out.length() > 330 ? 9 : random.nextInt(depth > 2 ? 5 : 10);
    if (kind == 0) {
      put(one("least", "most"));
      put("(");
      sum(depth + 1);
      put(",");
      sum(depth + 1);
      put(")");
    } else if (kind <= 2) {
      put("(");
      sum(depth + 1);
      put(")");
    } else if (random.nextBoolean()) {
      put(List.of("many", "month", "rank", "year", "in", "doubt").get(random.nextInt(6)));
    } else {
      number(random.nextInt(30) == 0 ? one(9999, 10000, 123456) : random.nextInt(random.nextBoolean() ? 4 : 2000));
    }
  }
}
