import java.util.ArrayList;
import java.util.Arrays;
import java.util.HashSet;
import java.util.List;
import java.util.Set;
import java.util.TreeSet;
import java.util.function.ToIntFunction;

/** The document told a second time, as plainly as can be and with no care for speed, for PlainModelTest. */
final class Model {
  static final int NONE = -1;

  record Mark(int name, int x, int y) { }

  static final class Ring {
    int day;
    int undone = NONE;
    List<Mark> marks = new ArrayList<>();
  }

  record Deed(int person, int act, int x, int y, int day, int many) { }

  record Clause(String kind, int act, ToIntFunction<Deed> value, int[] numbers) { }

  static final class Text {
    int day;
    List<Clause> clauses = new ArrayList<>();
  }

  static final class Person {
    int rank;
    int coins;
    int heir = NONE;
    int death = NONE;
  }

  static final class Warden {
    int person;
    int weight;
    int share;
    int[] lodge = null;
  }

  static final class Presentment {
    int deed;
    int warden;
    int[] pledges;
    int accused;
    int proofs;
    int state;
    int since;
    int owed = NONE;
    int[] paid = new int[3];
    int got;
  }

  static final class Claim {
    int person;
    int act;
    int x;
    int y;
    List<int[]> events = new ArrayList<>();
  }

  record Entry(int presentment, int sum) { }

  record Taking(int wood, int kind, int year, int many, int told) { }

  static final class Fault extends RuntimeException {
    private static final long serialVersionUID = 1L;
    final int kind;
    final int place;

    Fault(int kind, int place) {
      this.kind = kind;
      this.place = place;
    }
  }

  int today = 0;
  int chest = 0;
  int strip = 0;
  int faultPlace = NONE;
  final List<Integer> tape = new ArrayList<>();
  final List<Mark> marks = new ArrayList<>();
  final List<Ring> rings = new ArrayList<>();
  final List<Text> texts = new ArrayList<>();
  final List<Person> people = new ArrayList<>();
  final List<Warden> wardens = new ArrayList<>();
  final List<Deed> deeds = new ArrayList<>();
  final List<Presentment> presentments = new ArrayList<>();
  final List<Claim> claims = new ArrayList<>();
  final List<List<Entry>> rolls = List.of(new ArrayList<>(), new ArrayList<>(), new ArrayList<>(), new ArrayList<>());
  final List<int[]> spots = new ArrayList<>();
  final List<int[]> woods = new ArrayList<>();
  final List<Taking> takings = new ArrayList<>();
  List<Integer> walked = List.of();
  int rivals = NONE;

  // ---- geometry, by whole numbers

  static long cross(Mark a, Mark b, Mark c) {
    return (long) (b.x - a.x) * (c.y - a.y) - (long) (b.y - a.y) * (c.x - a.x);
  }

  static boolean onSide(Mark a, Mark b, Mark p) {
    return cross(a, b, p) == 0
        && Math.min(a.x, b.x) <= p.x && p.x <= Math.max(a.x, b.x)
        && Math.min(a.y, b.y) <= p.y && p.y <= Math.max(a.y, b.y);
  }

  /** How many points two sides have in common: 0, 1, or 2 for more than one. */
  static int common(Mark a, Mark b, Mark c, Mark d) {
    long across = (long) (b.x - a.x) * (d.y - c.y) - (long) (b.y - a.y) * (d.x - c.x);
    if (across != 0) {
      // a + s (b - a) = c + t (d - c), with s and t as fractions of across
      long s = (long) (c.x - a.x) * (d.y - c.y) - (long) (c.y - a.y) * (d.x - c.x);
      long t = (long) (c.x - a.x) * (b.y - a.y) - (long) (c.y - a.y) * (b.x - a.x);
      if (across < 0) {
        across = -across;
        s = -s;
        t = -t;
      }
      return s >= 0 && s <= across && t >= 0 && t <= across ? 1 : 0;
    }
    Set<Long> ends = new HashSet<>();
    for (Mark m : List.of(c, d)) {
      if (onSide(a, b, m)) {
        ends.add(m.x * 1000L + m.y);
      }
    }
    for (Mark m : List.of(a, b)) {
      if (onSide(c, d, m)) {
        ends.add(m.x * 1000L + m.y);
      }
    }
    return Math.min(2, ends.size());
  }

  static boolean simple(List<Mark> ring) {
    int n = ring.size();
    for (int i = 0; i < n; i++) {
      for (int j = i + 1; j < n; j++) {
        Mark a = ring.get(i);
        Mark c = ring.get(j);
        if (a.x == c.x && a.y == c.y) {
          return false;
        }
      }
    }
    for (int i = 0; i < n; i++) {
      for (int j = i + 1; j < n; j++) {
        boolean next = j == i + 1 || i == 0 && j == n - 1;
        int shared = common(ring.get(i), ring.get((i + 1) % n), ring.get(j), ring.get((j + 1) % n));
        if (shared > (next ? 1 : 0)) {
          return false;
        }
      }
    }
    return true;
  }

  int bounds(int day) {
    int best = NONE;
    for (int r = 0; r < rings.size(); r++) {
      Ring ring = rings.get(r);
      boolean undone = ring.undone != NONE && ring.undone <= day;
      if (ring.day <= day && !undone && (best == NONE || ring.day >= rings.get(best).day)) {
        best = r;
      }
    }
    return best;
  }

  int where(int day, int x, int y) {
    int number = bounds(day);
    if (number == NONE) {
      return 0;
    }
    List<Mark> ring = rings.get(number).marks;
    Mark p = new Mark(0, x, y);
    int winds = 0;
    for (int k = 0; k < ring.size(); k++) {
      Mark a = ring.get(k);
      Mark b = ring.get((k + 1) % ring.size());
      if (near(a, b, p)) {
        return 2;
      }
      if (a.y <= y && b.y > y && cross(a, b, p) > 0) {
        winds++;
      }
      if (a.y > y && b.y <= y && cross(a, b, p) < 0) {
        winds--;
      }
    }
    return winds != 0 ? 1 : 0;
  }

  private boolean near(Mark a, Mark b, Mark p) {
    long s = (long) strip * strip;
    if (onSide(a, b, p) || square(a, p) <= s || square(b, p) <= s) {
      return true;
    }
    boolean beside = square(a, p) < square(b, p) + square(a, b) && square(b, p) < square(a, p) + square(a, b);
    return beside && cross(a, b, p) * cross(a, b, p) <= s * square(a, b);
  }

  private static long square(Mark a, Mark b) {
    return (long) (a.x - b.x) * (a.x - b.x) + (long) (a.y - b.y) * (a.y - b.y);
  }

  int walk(int n) {
    List<Integer> names = new ArrayList<>(tape.subList(0, n));
    tape.clear();
    walked = List.of();
    rivals = NONE;
    if (n < 3 || n > 6) {
      return -2;
    }
    List<List<Integer>> rows = new ArrayList<>();
    rows.add(List.of());
    for (int name : names) {
      List<List<Integer>> longer = new ArrayList<>();
      for (List<Integer> row : rows) {
        for (int m = 0; m < marks.size(); m++) {
          if (marks.get(m).name == name) {
            List<Integer> more = new ArrayList<>(row);
            more.add(m);
            longer.add(more);
          }
        }
      }
      rows = longer;
    }
    int best = NONE;
    for (List<Integer> row : rows) {
      List<Mark> ring = row.stream().map(marks::get).toList();
      if (!simple(ring)) {
        continue;
      }
      rivals++;
      int length = 0;
      for (int k = 0; k < n; k++) {
        Mark a = ring.get(k);
        Mark b = ring.get((k + 1) % n);
        length += Math.abs(a.x - b.x) + Math.abs(a.y - b.y);
      }
      if (best == NONE || length < best) {
        best = length;
        walked = row;
      }
    }
    return best;
  }

  int ring(int day, int n) {
    List<Integer> bytes = new ArrayList<>(tape.subList(0, n));
    tape.clear();
    if (rings.size() == 12) {
      return -1;
    }
    if (n < 3 || n > 10) {
      return -2;
    }
    Ring ring = new Ring();
    ring.day = day;
    for (int b : bytes) {
      if (b >= marks.size()) {
        return -3;
      }
      ring.marks.add(marks.get(b));
    }
    if (!simple(ring.marks)) {
      return -4;
    }
    rings.add(ring);
    return rings.size() - 1;
  }

  // ---- texts

  record Token(String word, int place) { }

  static final List<String> ACTS = List.of("cut", "hunt", "dogs", "swine", "clear", "build");

  /** Words, numbers and single signs; the last is empty and stands at the length. */
  static List<Token> tokens(String text) {
    List<Token> all = new ArrayList<>();
    int k = 0;
    while (k < text.length()) {
      char c = text.charAt(k);
      int from = k;
      k++;
      if (c == ' ') {
        continue;
      }
      if (c >= 'a' && c <= 'z') {
        while (k < text.length() && text.charAt(k) >= 'a' && text.charAt(k) <= 'z') {
          k++;
        }
      } else if (c >= '0' && c <= '9') {
        while (k < text.length() && text.charAt(k) >= '0' && text.charAt(k) <= '9') {
          k++;
        }
      }
      all.add(new Token(text.substring(from, k), from));
    }
    all.add(new Token("", text.length()));
    return all;
  }

  final class Parser {
    private final List<Token> tokens;
    private int next = 0;
    private int open = 0;

    Parser(String text) {
      tokens = tokens(text);
    }

    Text parse(int day) {
      Text text = new Text();
      text.day = day;
      while (!is("")) {
        text.clauses.add(clause(text.clauses.size()));
        need(";");
      }
      return text;
    }

    private Clause clause(int already) {
      int place = tokens.get(next).place;
      String kind = oneOf(List.of("bar", "allow", "strike", "fine", "undo", "heirs", "courts", "use"));
      if (already == 12) {
        throw new Fault(3, place);
      }
      switch (kind) {
        case "bar":
        case "allow":
          int act = ACTS.indexOf(oneOf(ACTS));
          return new Clause(kind, act, took("if") ? condition() : d -> 1, null);
        case "strike":
          return new Clause(kind, ACTS.indexOf(oneOf(ACTS)), null, null);
        case "fine":
          int fined = ACTS.indexOf(oneOf(ACTS));
          need("=");
          return new Clause(kind, fined, sum(), null);
        case "undo":
          return new Clause(kind, NONE, null, new int[] {number(0, texts.size() - 1)});
        case "heirs":
          return new Clause(kind, NONE, null, new int[] {oneOf(List.of("owe", "free")).equals("owe") ? 1 : 0});
        case "courts":
          return new Clause(kind, NONE, null, new int[] {number(1, 4000), number(1, 4000), number(1, 4000)});
        default:
          return new Clause(kind, NONE, null, new int[] {number(1, 60)});
      }
    }

    private ToIntFunction<Deed> condition() {
      ToIntFunction<Deed> left = both();
      while (took("or")) {
        ToIntFunction<Deed> a = left;
        ToIntFunction<Deed> b = both();
        left = d -> a.applyAsInt(d) != 0 || b.applyAsInt(d) != 0 ? 1 : 0;
      }
      return left;
    }

    private ToIntFunction<Deed> both() {
      ToIntFunction<Deed> left = test();
      while (took("and")) {
        ToIntFunction<Deed> a = left;
        ToIntFunction<Deed> b = test();
        left = d -> a.applyAsInt(d) != 0 && b.applyAsInt(d) != 0 ? 1 : 0;
      }
      return left;
    }

    private ToIntFunction<Deed> test() {
      if (is("not")) {
        opens("not");
        ToIntFunction<Deed> a = test();
        open--;
        return d -> a.applyAsInt(d) == 0 ? 1 : 0;
      }
      if (is("[")) {
        opens("[");
        ToIntFunction<Deed> a = condition();
        need("]");
        open--;
        return a;
      }
      ToIntFunction<Deed> a = sum();
      String sign = oneOf(List.of("<", ">", "="));
      ToIntFunction<Deed> b = sum();
      return d -> {
        int order = Integer.compare(a.applyAsInt(d), b.applyAsInt(d));
        return order == (sign.equals("<") ? -1 : sign.equals(">") ? 1 : 0) ? 1 : 0;
      };
    }

    private ToIntFunction<Deed> sum() {
      ToIntFunction<Deed> left = product();
      while (is("+") || is("-")) {
        String sign = oneOf(List.of("+", "-"));
        ToIntFunction<Deed> a = left;
        ToIntFunction<Deed> b = product();
        left = d -> (int) (sign.equals("+") ? (long) a.applyAsInt(d) + b.applyAsInt(d) : (long) a.applyAsInt(d) - b.applyAsInt(d));
      }
      return left;
    }

    private ToIntFunction<Deed> product() {
      ToIntFunction<Deed> left = value();
      while (is("*") || is("/")) {
        String sign = oneOf(List.of("*", "/"));
        ToIntFunction<Deed> a = left;
        ToIntFunction<Deed> b = value();
        left = d -> {
          long x = a.applyAsInt(d);
          long y = b.applyAsInt(d);
          return (int) (sign.equals("*") ? x * y : y == 0 ? 0 : x / y);
        };
      }
      return left;
    }

    private ToIntFunction<Deed> value() {
      if (Character.isDigit(first())) {
        int n = number(0, 9999);
        return d -> n;
      }
      if (is("(")) {
        opens("(");
        ToIntFunction<Deed> inside = sum();
        need(")");
        open--;
        return inside;
      }
      String word = oneOf(List.of("many", "month", "rank", "year", "in", "doubt", "least", "most"));
      switch (word) {
        case "many": return Deed::many;
        case "month": return d -> d.day / 30 % 12;
        case "rank": return d -> people.get(d.person).rank;
        case "year": return d -> d.day / 360;
        case "in": return d -> where(d.day, d.x, d.y) == 1 ? 1 : 0;
        case "doubt": return d -> where(d.day, d.x, d.y) == 2 ? 1 : 0;
        default: break;
      }
      opens("(");
      ToIntFunction<Deed> a = sum();
      need(",");
      ToIntFunction<Deed> b = sum();
      need(")");
      open--;
      return word.equals("least")
          ? d -> Math.min(a.applyAsInt(d), b.applyAsInt(d)) : d -> Math.max(a.applyAsInt(d), b.applyAsInt(d));
    }

    private void opens(String sign) {
      int place = tokens.get(next).place;
      need(sign);
      open++;
      if (open == 9) {
        throw new Fault(3, place);
      }
    }

    private char first() {
      return is("") ? ' ' : tokens.get(next).word.charAt(0);
    }

    private int number(int least, int most) {
      int place = tokens.get(next).place;
      if (!Character.isDigit(first())) {
        throw new Fault(1, place);
      }
      java.math.BigInteger n = new java.math.BigInteger(tokens.get(next).word);
      next++;
      if (n.compareTo(java.math.BigInteger.valueOf(least)) < 0 || n.compareTo(java.math.BigInteger.valueOf(most)) > 0) {
        throw new Fault(2, place);
      }
      return n.intValue();
    }

    private boolean is(String word) {
      return tokens.get(next).word.equals(word);
    }

    private boolean took(String word) {
      if (is(word)) {
        next++;
        return true;
      }
      return false;
    }

    private void need(String word) {
      if (!took(word)) {
        throw new Fault(1, tokens.get(next).place);
      }
    }

    private String oneOf(List<String> words) {
      Token token = tokens.get(next);
      if (!words.contains(token.word)) {
        throw new Fault(1, token.place);
      }
      next++;
      return token.word;
    }
  }

  int text(int day, int n) {
    StringBuilder text = new StringBuilder();
    for (int k = 0; k < n; k++) {
      text.append((char) tape.get(k).intValue());
    }
    tape.clear();
    faultPlace = NONE;
    if (texts.size() == 10) {
      return -1;
    }
    try {
      texts.add(new Parser(text.toString()).parse(day));
    } catch (Fault fault) {
      faultPlace = fault.place;
      return fault.kind - 10;
    }
    return texts.size() - 1;
  }

  boolean force(int text, int day) {
    if (texts.get(text).day > day) {
      return false;
    }
    for (int later = text + 1; later < texts.size(); later++) {
      for (Clause clause : texts.get(later).clauses) {
        if (clause.kind.equals("undo") && clause.numbers[0] == text && force(later, day)) {
          return false;
        }
      }
    }
    return true;
  }

  int rule(int day, int what) {
    int[] told = {40, 120, 1080, 20, 1};
    for (int t = 0; t < texts.size(); t++) {
      if (!force(t, day)) {
        continue;
      }
      for (Clause clause : texts.get(t).clauses) {
        switch (clause.kind) {
          case "courts": System.arraycopy(clause.numbers, 0, told, 0, 3); break;
          case "use": told[3] = clause.numbers[0]; break;
          case "heirs": told[4] = clause.numbers[0]; break;
          default: break;
        }
      }
    }
    return told[what];
  }

  /** The word as why() tells it, whether it is bar, and the fine (or NONE). */
  int[] word(int number) {
    Deed deed = deeds.get(number);
    int[] said = {NONE, 0, NONE};
    for (int t = 0; t < texts.size(); t++) {
      if (!force(t, deed.day)) {
        continue;
      }
      for (int c = 0; c < texts.get(t).clauses.size(); c++) {
        Clause clause = texts.get(t).clauses.get(c);
        if (clause.act != deed.act) {
          continue;
        }
        if (clause.kind.equals("strike")) {
          said = new int[] {NONE, 0, NONE};
        } else if (clause.kind.equals("fine")) {
          said[2] = Math.min(10000, Math.max(0, clause.value.applyAsInt(deed)));
        } else if (clause.value.applyAsInt(deed) != 0) {
          said[0] = 100 * t + c;
          said[1] = clause.kind.equals("bar") ? 1 : 0;
        }
      }
    }
    return said;
  }

  boolean barred(int number) {
    Deed deed = deeds.get(number);
    if (word(number)[1] == 0 || where(deed.day, deed.x, deed.y) == 0) {
      return false;
    }
    for (int c = 0; c < claims.size(); c++) {
      Claim claim = claims.get(c);
      boolean dead = people.get(claim.person).death != NONE;
      boolean holds = claim.person == deed.person || dead && heirOf(claim.person) == deed.person;
      boolean near = Math.abs(claim.x - deed.x) + Math.abs(claim.y - deed.y) <= 20;
      if (holds && near && claim.act == deed.act && sure(c, deed.day) == 2) {
        return false;
      }
    }
    return true;
  }

  int fine(int number) {
    int said = word(number)[2];
    return said == NONE ? deeds.get(number).many : said;
  }

  // ---- people and courts

  int heirOf(int person) {
    Set<Integer> met = new HashSet<>();
    met.add(person);
    int next = people.get(person).heir;
    while (next != NONE && met.add(next)) {
      if (people.get(next).death == NONE) {
        return next;
      }
      next = people.get(next).heir;
    }
    return NONE;
  }

  int present(int deed, int warden, int one, int other) {
    if (presentments.size() == 40) {
      return -1;
    }
    for (Presentment p : presentments) {
      if (p.deed == deed) {
        return -2;
      }
    }
    if (!barred(deed)) {
      return -3;
    }
    Presentment p = new Presentment();
    p.accused = deeds.get(deed).person;
    if (people.get(one).death != NONE || people.get(other).death != NONE
        || one == other || one == p.accused || other == p.accused) {
      return -4;
    }
    p.deed = deed;
    p.warden = warden;
    p.pledges = new int[] {one, other};
    p.since = today;
    presentments.add(p);
    return presentments.size() - 1;
  }

  void day() {
    today++;
    boolean owe = rule(today, 4) == 1;
    if (today % rule(today, 0) == 0) {
      for (Presentment p : presentments) {
        if (p.state == 0 && p.since < today && answers(p, owe)) {
          become(p, wardens.get(p.warden).weight + p.proofs > 0 ? 1 : 5);
        }
      }
    }
    if (today % rule(today, 1) == 0) {
      for (Presentment p : presentments) {
        if (p.state == 1 && p.since < today && answers(p, owe)) {
          Deed d = deeds.get(p.deed);
          become(p, where(d.day, d.x, d.y) == 2 && p.proofs <= 0 ? 5 : 2);
        }
      }
    }
    if (today % rule(today, 2) == 0) {
      for (Presentment p : presentments) {
        if ((p.state == 2 && p.since < today || p.state == 4) && answers(p, owe)) {
          ask(p);
        }
      }
    }
  }

  private boolean answers(Presentment p, boolean owe) {
    if (people.get(p.accused).death == NONE) {
      return true;
    }
    int heir = heirOf(p.accused);
    if (!owe || heir == NONE) {
      become(p, 6);
      return false;
    }
    p.accused = heir;
    return true;
  }

  private void become(Presentment p, int state) {
    if (p.state != state) {
      p.since = today;
    }
    p.state = state;
  }

  private void ask(Presentment p) {
    int due = p.state == 4 ? p.owed : fine(p.deed);
    int left = due - pay(p, p.accused, due, 0);
    int first = (left + 1) / 2;
    int second = left - first;
    int after = left;
    after -= pay(p, payer(p.pledges[0]), first, 1);
    after -= pay(p, payer(p.pledges[1]), second, 2);
    p.owed = after;
    become(p, after == 0 ? 3 : 4);
  }

  private int payer(int pledge) {
    return people.get(pledge).death == NONE ? pledge : heirOf(pledge);
  }

  private int pay(Presentment p, int payer, int due, int part) {
    if (payer == NONE) {
      return 0;
    }
    int paid = Math.min(due, people.get(payer).coins);
    people.get(payer).coins -= paid;
    Person gets = people.get(wardens.get(p.warden).person);
    int share = gets.death == NONE ? paid * wardens.get(p.warden).share / 100 : 0;
    gets.coins = Math.min(1000000, gets.coins + share);
    chest += paid - share;
    p.paid[part] += paid;
    p.got += share;
    return paid;
  }

  int of(int presentment, int what) {
    Presentment p = presentments.get(presentment);
    int owed = p.state == 3 || p.state == 4 ? p.owed : NONE;
    return new int[] {p.state, p.accused, p.since, owed, p.paid[0], p.paid[1], p.paid[2], p.got}[what];
  }

  int sure(int claim, int day) {
    int years = rule(day, 3);
    int used = 0;
    for (int k = 0; k < years; k++) {
      int last = day - 360 * k;
      int first = last - 359;
      boolean use = false;
      for (int[] event : claims.get(claim).events) {
        if (event[1] >= first && event[1] <= last) {
          if (event[0] == 1) {
            return 0;
          }
          use = true;
        }
      }
      used += use ? 1 : 0;
    }
    return used == years ? 2 : used * 2 >= years ? 1 : 0;
  }

  // ---- rolls, beats and woods

  private List<Integer> best;
  private int bestQuarrel;

  /** The joined order; null, if too many are listed. */
  List<Integer> joined() {
    Set<Integer> listed = new TreeSet<>();
    for (List<Entry> roll : rolls) {
      for (Entry entry : roll) {
        listed.add(entry.presentment);
      }
    }
    if (listed.size() > 8) {
      return null;
    }
    best = null;
    permute(new ArrayList<>(), new ArrayList<>(listed));
    return best;
  }

  int quarrel() {
    return joined() == null ? NONE : bestQuarrel;
  }

  /** Orders come by numbers, so that a later one must be better. */
  private void permute(List<Integer> order, List<Integer> rest) {
    if (rest.isEmpty()) {
      int quarrel = quarrelOf(order);
      if (best == null || quarrel < bestQuarrel) {
        best = new ArrayList<>(order);
        bestQuarrel = quarrel;
      }
      return;
    }
    for (int k = 0; k < rest.size(); k++) {
      List<Integer> less = new ArrayList<>(rest);
      order.add(less.remove(k));
      permute(order, less);
      order.remove(order.size() - 1);
    }
  }

  private int quarrelOf(List<Integer> order) {
    int[] placeOf = new int[40];
    for (int k = 0; k < order.size(); k++) {
      placeOf[order.get(k)] = k;
    }
    int quarrel = 0;
    for (List<Entry> roll : rolls) {
      for (int i = 0; i < roll.size(); i++) {
        for (int j = i + 1; j < roll.size(); j++) {
          if (placeOf[roll.get(i).presentment] > placeOf[roll.get(j).presentment]) {
            quarrel++;
          }
        }
      }
    }
    return quarrel;
  }

  int joined(int k, int what) {
    List<Integer> order = joined();
    if (order == null || k < 0 || k >= order.size()) {
      return NONE;
    }
    if (what == 0) {
      return order.get(k);
    }
    List<Integer> sums = new ArrayList<>();
    for (List<Entry> roll : rolls) {
      for (Entry entry : roll) {
        if (entry.presentment == order.get(k)) {
          sums.add(entry.sum);
        }
      }
    }
    sums.sort(null);
    return sums.get((sums.size() - 1) / 2);
  }

  private int[] bestWay;
  private int bestWorth;

  /** Of each spot the warden, by the best way; the worth is left in bestWorth. */
  int[] beats() {
    List<Integer> lodged = new ArrayList<>();
    for (int w = 0; w < wardens.size() && lodged.size() < 2; w++) {
      if (wardens.get(w).lodge != null) {
        lodged.add(w);
      }
    }
    bestWorth = NONE;
    int[] way = new int[spots.size()];
    Arrays.fill(way, NONE);
    goOn(lodged, way, 0);
    return bestWay;
  }

  int worth() {
    beats();
    return bestWorth;
  }

  private void goOn(List<Integer> lodged, int[] way, int spot) {
    if (spot < way.length) {
      for (int w : lodged) {
        way[spot] = w;
        goOn(lodged, way, spot + 1);
      }
      way[spot] = NONE;
      goOn(lodged, way, spot + 1);
      return;
    }
    int worth = 0;
    for (int s = 0; s < way.length; s++) {
      worth += way[s] == NONE ? 0 : spots.get(s)[2];
    }
    if (worth <= bestWorth) {
      return;
    }
    for (int w : lodged) {
      List<Integer> beat = new ArrayList<>();
      for (int s = 0; s < way.length; s++) {
        if (way[s] == w) {
          beat.add(s);
        }
      }
      int[] lodge = wardens.get(w).lodge;
      if (!canGo(beat, lodge[0], lodge[1], lodge, lodge[2])) {
        return;
      }
    }
    bestWorth = worth;
    bestWay = way.clone();
  }

  private boolean canGo(List<Integer> beat, int x, int y, int[] lodge, int left) {
    if (left < 0) {
      return false;
    }
    if (beat.isEmpty()) {
      return Math.abs(x - lodge[0]) + Math.abs(y - lodge[1]) <= left;
    }
    for (int k = 0; k < beat.size(); k++) {
      List<Integer> rest = new ArrayList<>(beat);
      int[] spot = spots.get(rest.remove(k));
      if (canGo(rest, spot[0], spot[1], lodge, left - Math.abs(x - spot[0]) - Math.abs(y - spot[1]))) {
        return true;
      }
    }
    return false;
  }

  int stock(int wood, int kind, int year, int known) {
    int[] w = woods.get(wood);
    if (year < w[0]) {
      return NONE;
    }
    long oaks = w[1];
    long deer = w[2];
    for (int y = w[0]; y <= year; y++) {
      for (Taking t : takings) {
        if (t.wood == wood && t.year == y && t.told <= known) {
          oaks -= t.kind == 0 ? t.many : 0;
          deer -= t.kind == 1 ? t.many : 0;
        }
      }
      oaks = Math.max(0, oaks);
      deer = Math.max(0, deer);
      oaks = Math.min(1000000, oaks + oaks / 50);
      deer = Math.min(1000000, Math.min(deer + deer / 3, oaks / 10 + 5));
    }
    return (int) (kind == 0 ? oaks : deer);
  }
}
