import java.util.Arrays;

/** A king's woods with laws of their own; README.md tells how to use it. */
public final class ForestCourts {
  public static final int NONE = -1;

  private static final int LAST_DAY = 100000;
  private static final int LAST_YEAR = 277;
  private static final int YEAR_DAYS = 360;
  private static final int MONTH_DAYS = 30;
  private static final int YEAR_MONTHS = 12;
  private static final int TAPE_BYTES = 400;
  private static final int FED_BYTES = 20;
  private static final int ACTS = 6;

  private static final int OUT = 0;
  private static final int IN = 1;
  private static final int DOUBTFUL = 2;

  private final Table tape;
  private final Ground ground;
  private final Search search;
  private final Laws laws;
  private final People people;
  private final Claims claims;
  private final Courts courts;
  private final Rolls rolls;
  private final Patrols patrols;
  private final Woods woods;

  public ForestCourts() {
    tape = new Table(1, TAPE_BYTES);
    ground = new Ground();
    search = new Search(ground);
    laws = new Laws(tape);
    people = new People();
    claims = new Claims(people, laws);
    courts = new Courts(ground, laws, people, claims);
    rolls = new Rolls();
    patrols = new Patrols(courts.wardens);
    woods = new Woods();
  }

  // ---- days and the tape

  public int wait(int days) throws IllegalArgumentException, IllegalStateException {
    checkArgument(within(days, 0, 4000));
    checkState(courts.today + days <= LAST_DAY);
    for (int k = 0; k < days; k++) {
      courts.beginDay();
    }
    return courts.today;
  }

  public int feed(int a, int b, int c, int d, int e) {
    if (tape.size() + FED_BYTES > TAPE_BYTES) {
      return NONE;
    }
    addBytes(a);
    addBytes(b);
    addBytes(c);
    addBytes(d);
    addBytes(e);
    return tape.size();
  }

  // ---- bounds

  public int mark(int name, int x, int y) throws IllegalArgumentException, IllegalStateException {
    checkArgument(within(name, 0, 19) && isPlace(x, y));
    checkState(!ground.marks.isFull());
    return ground.addMark(name, x, y);
  }

  public int ring(int day, int n) throws IllegalArgumentException {
    checkArgument(isDay(day) && within(n, 0, tape.size()));
    tape.cut(n);
    int answer = ground.addRing(day, tape);
    tape.cut(0);
    return answer;
  }

  public int unring(int ring, int day) throws IndexOutOfBoundsException, IllegalArgumentException {
    checkIndex(ground.rings.has(ring));
    checkArgument(day == NONE || isDay(day));
    return ground.rings.swap(ring, Ground.UNDONE, day);
  }

  public int strip(int strip) throws IllegalArgumentException {
    checkArgument(within(strip, 0, 100));
    int was = ground.strip;
    ground.strip = strip;
    return was;
  }

  public int bounds(int day) throws IllegalArgumentException {
    checkArgument(isDay(day));
    return ground.boundsOn(day);
  }

  public int where(int day, int x, int y) throws IllegalArgumentException {
    checkArgument(isDay(day) && isPlace(x, y));
    return ground.placeOn(day, x, y);
  }

  public int walk(int n) throws IllegalArgumentException {
    checkArgument(within(n, 0, tape.size()));
    tape.cut(n);
    int answer = search.go(tape);
    tape.cut(0);
    return answer;
  }

  public int walked(int k) {
    return search.markAt(k);
  }

  public int rivals() {
    return search.found > 0 ? search.found - 1 : NONE;
  }

  // ---- texts

  public int text(int day, int n) throws IllegalArgumentException {
    checkArgument(isDay(day) && within(n, 0, tape.size()));
    tape.cut(n);
    int answer = laws.addText(day);
    tape.cut(0);
    return answer;
  }

  public int fault() {
    return laws.faultPlace;
  }

  public boolean force(int text, int day) throws IndexOutOfBoundsException, IllegalArgumentException {
    checkIndex(laws.texts.has(text));
    checkArgument(isDay(day));
    return (laws.forceOn(day) >> text & 1) == 1;
  }

  public int rule(int day, int what) throws IllegalArgumentException {
    checkArgument(isDay(day) && within(what, 0, 4));
    return laws.ruleOn(day, what);
  }

  // ---- people

  public int person(int rank, int coins) throws IllegalArgumentException, IllegalStateException {
    checkArgument(within(rank, 0, 3) && within(coins, 0, People.MOST_COINS));
    checkState(!people.rows.isFull());
    return people.addPerson(rank, coins);
  }

  public int heir(int person, int heir) throws IndexOutOfBoundsException, IllegalArgumentException {
    checkIndex(people.rows.has(person) && (heir == NONE || people.rows.has(heir)));
    checkArgument(person != heir);
    return people.rows.swap(person, People.HEIR, heir);
  }

  public int die(int person) throws IndexOutOfBoundsException {
    checkIndex(people.rows.has(person));
    if (!people.lives(person)) {
      return -1;
    }
    people.rows.put(person, People.DEATH, courts.today);
    return 1;
  }

  public int told(int person, int what) throws IndexOutOfBoundsException, IllegalArgumentException {
    checkIndex(people.rows.has(person));
    checkArgument(within(what, 0, 3));
    return what == 3 ? people.heirOf(person) : people.rows.get(person, what);
  }

  // ---- deeds and presentments

  public int warden(int person, int weight, int share) throws IndexOutOfBoundsException, IllegalArgumentException {
    checkIndex(people.rows.has(person));
    checkArgument(within(weight, 1, 9) && within(share, 0, 50));
    return courts.addWarden(person, weight, share);
  }

  public int deed(int person, int act, int x, int y, int day, int many)
      throws IndexOutOfBoundsException, IllegalArgumentException {
    checkIndex(people.rows.has(person));
    checkArgument(isAct(act) && isPlace(x, y) && within(day, 0, courts.today) && within(many, 1, 1000));
    return courts.addDeed(person, act, x, y, day, many);
  }

  public boolean barred(int deed) throws IndexOutOfBoundsException {
    checkIndex(courts.deeds.has(deed));
    return courts.isBarred(deed);
  }

  public int why(int deed) throws IndexOutOfBoundsException {
    checkIndex(courts.deeds.has(deed));
    courts.hearLaws(deed);
    return laws.wordNumber();
  }

  public int fine(int deed) throws IndexOutOfBoundsException {
    checkIndex(courts.deeds.has(deed));
    return courts.fineOf(deed);
  }

  public int present(int deed, int warden, int one, int other) throws IndexOutOfBoundsException {
    checkIndex(courts.deeds.has(deed) && courts.wardens.has(warden));
    checkIndex(people.rows.has(one) && people.rows.has(other));
    return courts.addPresentment(deed, warden, one, other);
  }

  public int proof(int presentment, int proof) throws IndexOutOfBoundsException, IllegalArgumentException {
    checkIndex(courts.presentments.has(presentment));
    checkArgument(within(proof, -9, 9));
    return courts.addProof(presentment, proof);
  }

  public int of(int presentment, int what) throws IndexOutOfBoundsException, IllegalArgumentException {
    checkIndex(courts.presentments.has(presentment));
    checkArgument(within(what, 0, 7));
    return courts.presentments.get(presentment, what);
  }

  // ---- claims

  public int claim(int person, int act, int x, int y) throws IndexOutOfBoundsException, IllegalArgumentException {
    checkIndex(people.rows.has(person));
    checkArgument(isAct(act) && isPlace(x, y));
    return claims.addClaim(person, act, x, y);
  }

  public int use(int claim, int kind, int day) throws IndexOutOfBoundsException, IllegalArgumentException {
    checkIndex(claims.rows.has(claim));
    checkArgument(within(kind, 0, 1) && isDay(day));
    return claims.addEvent(claim, kind, day);
  }

  public int sure(int claim, int day) throws IndexOutOfBoundsException, IllegalArgumentException {
    checkIndex(claims.rows.has(claim));
    checkArgument(isDay(day));
    return claims.sureOn(claim, day);
  }

  // ---- rolls

  public int enter(int hand, int presentment, int sum) throws IndexOutOfBoundsException, IllegalArgumentException {
    checkIndex(within(hand, 0, Rolls.HANDS - 1) && courts.presentments.has(presentment));
    checkArgument(within(sum, 0, 100000));
    return rolls.addEntry(hand, presentment, sum);
  }

  public int quarrel() {
    return rolls.leastQuarrel();
  }

  public int joined(int k, int what) throws IllegalArgumentException {
    checkArgument(within(what, 0, 1));
    return what == 0 ? rolls.entryAt(k) : rolls.sumAt(k);
  }

  // ---- beats

  public int lodge(int warden, int x, int y, int reach) throws IndexOutOfBoundsException, IllegalArgumentException {
    checkIndex(courts.wardens.has(warden));
    checkArgument(isPlace(x, y) && within(reach, 0, 4000));
    patrols.setLodge(warden, x, y, reach);
    return 1;
  }

  public int spot(int x, int y, int worth) throws IllegalArgumentException {
    checkArgument(isPlace(x, y) && within(worth, 1, 1000));
    return patrols.addSpot(x, y, worth);
  }

  public int beats() {
    patrols.plan();
    return patrols.worth;
  }

  public int beat(int spot) throws IndexOutOfBoundsException {
    checkIndex(patrols.spots.has(spot));
    patrols.plan();
    return patrols.wardenOf(spot);
  }

  // ---- woods

  public int wood(int year, int oaks, int deer) throws IllegalArgumentException {
    checkArgument(isYear(year) && within(oaks, 0, 100000) && within(deer, 0, 100000));
    return woods.addWood(year, oaks, deer);
  }

  public int take(int wood, int kind, int year, int many) throws IndexOutOfBoundsException, IllegalArgumentException {
    checkIndex(woods.rows.has(wood));
    checkArgument(within(kind, 0, 1) && within(year, woods.firstYear(wood), LAST_YEAR) && within(many, 1, 100000));
    return woods.addTaking(wood, kind, year, many, courts.today);
  }

  public int stock(int wood, int kind, int year, int known) throws IndexOutOfBoundsException, IllegalArgumentException {
    checkIndex(woods.rows.has(wood));
    checkArgument(within(kind, 0, 1) && isYear(year) && isDay(known));
    return woods.stockOf(wood, kind, year, known);
  }

  public int count(int what) {
    switch (what) {
      case 0: return courts.today;
      case 1: return ground.marks.size();
      case 2: return ground.rings.size();
      case 3: return laws.texts.size();
      case 4: return people.rows.size();
      case 5: return courts.wardens.size();
      case 6: return courts.deeds.size();
      case 7: return courts.presentments.size();
      case 8: return courts.chest;
      case 9: return claims.rows.size();
      case 10: return patrols.spots.size();
      case 11: return woods.rows.size();
      case 12: return woods.takings.size();
      case 13: return tape.size();
      default: return NONE;
    }
  }

  // ---- what several parts need

  private void addBytes(int number) {
    for (int shift = 24; shift >= 0; shift -= 8) {
      tape.put(tape.add(), 0, number >>> shift & 255);
    }
  }

  private static boolean within(int number, int least, int most) {
    return number >= least && number <= most;
  }

  private static boolean isDay(int day) {
    return within(day, 0, LAST_DAY);
  }

  private static boolean isYear(int year) {
    return within(year, 0, LAST_YEAR);
  }

  private static boolean isPlace(int x, int y) {
    return within(x, 0, 999) && within(y, 0, 999);
  }

  private static boolean isAct(int act) {
    return within(act, 0, ACTS - 1);
  }

  private static int wayBetween(int x, int y, int otherX, int otherY) {
    return Math.abs(x - otherX) + Math.abs(y - otherY);
  }

  private static void checkArgument(boolean holds) {
    if (!holds) {
      throw new IllegalArgumentException("an argument is none such");
    }
  }

  private static void checkIndex(boolean holds) {
    if (!holds) {
      throw new IndexOutOfBoundsException("there is none such");
    }
  }

  private static void checkState(boolean holds) {
    if (!holds) {
      throw new IllegalStateException("there is no room for more");
    }
  }

  /**
   * Rows of numbers, all of one width. Each cell is reached through here alone, so that an index is
   * looked at in one place; rows are made as they are needed, as few objects use all of them.
   */
  private static final class Table {
    private static final int FIRST_ROWS = 4;

    private final int width;
    private final int limit;
    private int[] cells;
    private int rows;

    Table(int width, int limit) {
      this.width = width;
      this.limit = limit;
      this.cells = new int[Math.max(0, FIRST_ROWS * width)];
    }

    int size() {
      return rows;
    }

    boolean has(int row) {
      return row >= 0 && row < rows;
    }

    boolean isFull() {
      return rows >= limit;
    }

    /** A new row of NONE; NONE, if there is room for none. */
    int add() {
      if (isFull()) {
        return NONE;
      }
      int needed = (rows + 1) * width;
      if (needed > cells.length) {
        cells = Arrays.copyOf(cells, Math.max(needed, 2 * cells.length));
      }
      rows++;
      for (int column = 0; column < width; column++) {
        put(rows - 1, column, NONE);
      }
      return rows - 1;
    }

    /** Keeps the first rows alone. */
    void cut(int kept) {
      if (kept >= 0 && kept < rows) {
        rows = kept;
      }
    }

    int get(int row, int column) {
      if (row < 0 || row >= rows || column < 0 || column >= width) {
        return NONE;
      }
      int at = row * width + column;
      return at < cells.length ? cells[at] : NONE;
    }

    void put(int row, int column, int value) {
      if (row < 0 || row >= rows || column < 0 || column >= width) {
        return;
      }
      int at = row * width + column;
      if (at < cells.length) {
        cells[at] = value;
      }
    }

    int swap(int row, int column, int value) {
      int was = get(row, column);
      put(row, column, value);
      return was;
    }

    int raise(int row, int column, int by) {
      put(row, column, get(row, column) + by);
      return get(row, column);
    }
  }

  /** Marks, rings, and what a place is by them. */
  private static final class Ground {
    static final int NAME = 0;
    static final int X = 1;
    static final int Y = 2;

    static final int FROM = 0;
    static final int UNDONE = 1;
    static final int LENGTH = 2;
    static final int CORNERS = 3;

    static final int MOST_MARKS = 40;
    static final int SAME_NAME = 4;
    static final int LEAST_CORNERS = 3;
    static final int MOST_CORNERS = 10;

    final Table marks;
    final Table rings;
    private final int[] row;
    private int strip;

    Ground() {
      marks = new Table(3, MOST_MARKS);
      rings = new Table(CORNERS + MOST_CORNERS, 12);
      row = new int[MOST_CORNERS];
    }

    int addMark(int name, int x, int y) {
      int named = 0;
      for (int m = 0; m < marks.size(); m++) {
        if (marks.get(m, NAME) == name) {
          named++;
        }
      }
      if (named >= SAME_NAME) {
        return -1;
      }
      int mark = marks.add();
      marks.put(mark, NAME, name);
      marks.put(mark, X, x);
      marks.put(mark, Y, y);
      return mark;
    }

    int addRing(int day, Table tape) {
      int n = tape.size();
      if (rings.isFull()) {
        return -1;
      }
      if (n < LEAST_CORNERS || n > MOST_CORNERS) {
        return -2;
      }
      for (int k = 0; k < n && k < row.length; k++) {
        row[k] = tape.get(k, 0);
        if (!marks.has(row[k])) {
          return -3;
        }
      }
      if (!isSimple(n)) {
        return -4;
      }
      int ring = rings.add();
      rings.put(ring, FROM, day);
      rings.put(ring, LENGTH, n);
      for (int k = 0; k < n && k < row.length; k++) {
        rings.put(ring, CORNERS + k, row[k]);
      }
      return ring;
    }

    private boolean isSimple(int n) {
      for (int k = 0; k < n; k++) {
        if (!follows(row, k)) {
          return false;
        }
      }
      return closes(row, n);
    }

    /** Whether a ring that is simple so far stays so with its k-th mark and the side that leads to it. */
    boolean follows(int[] corners, int k) {
      if (k < 0 || k >= corners.length) {
        return false;
      }
      for (int j = 0; j < k; j++) {
        if (isSamePlace(corners[j], corners[k])) {
          return false;
        }
      }
      if (k >= 2 && foldsBack(corners[k - 2], corners[k - 1], corners[k])) {
        return false;
      }
      for (int j = 0; j + 2 < k; j++) {
        if (touch(corners[j], corners[j + 1], corners[k - 1], corners[k])) {
          return false;
        }
      }
      return true;
    }

    /** Whether a ring that is simple so far stays so with the side from its last mark to its first. */
    boolean closes(int[] corners, int n) {
      if (n < LEAST_CORNERS || n > corners.length) {
        return false;
      }
      int last = corners[n - 1];
      if (foldsBack(corners[n - 2], last, corners[0]) || foldsBack(last, corners[0], corners[1])) {
        return false;
      }
      for (int j = 1; j + 2 < n; j++) {
        if (touch(corners[j], corners[j + 1], last, corners[0])) {
          return false;
        }
      }
      return true;
    }

    private boolean isSamePlace(int a, int b) {
      return marks.get(a, X) == marks.get(b, X) && marks.get(a, Y) == marks.get(b, Y);
    }

    /** Whether the sides from a to b and from b to c have more in common than b. */
    private boolean foldsBack(int a, int b, int c) {
      int x = marks.get(b, X);
      int y = marks.get(b, Y);
      int along = (marks.get(a, X) - x) * (marks.get(c, X) - x) + (marks.get(a, Y) - y) * (marks.get(c, Y) - y);
      return along > 0 && turn(a, b, c) == 0;
    }

    /**
     * Whether the sides from a to b and from c to d have a point in common: what they span along x and along y
     * overlaps, and neither of them lies on one hand of the other alone.
     */
    private boolean touch(int a, int b, int c, int d) {
      return overlap(marks.get(a, X), marks.get(b, X), marks.get(c, X), marks.get(d, X))
          && overlap(marks.get(a, Y), marks.get(b, Y), marks.get(c, Y), marks.get(d, Y))
          && turn(a, b, c) * turn(a, b, d) <= 0
          && turn(c, d, a) * turn(c, d, b) <= 0;
    }

    private static boolean overlap(int a, int b, int c, int d) {
      return Math.max(a, b) >= Math.min(c, d) && Math.max(c, d) >= Math.min(a, b);
    }

    /** To which hand c lies, when one goes from a to b: -1, 1, or 0 on the line. */
    private int turn(int a, int b, int c) {
      int x = marks.get(a, X);
      int y = marks.get(a, Y);
      return handOf(marks.get(b, X) - x, marks.get(b, Y) - y, marks.get(c, X) - x, marks.get(c, Y) - y);
    }

    private static int handOf(int aheadX, int aheadY, int x, int y) {
      int area = aheadX * y - aheadY * x;
      return area > 0 ? 1 : area < 0 ? -1 : 0;
    }

    int wayOf(int a, int b) {
      return wayBetween(marks.get(a, X), marks.get(a, Y), marks.get(b, X), marks.get(b, Y));
    }

    int boundsOn(int day) {
      int best = NONE;
      for (int r = 0; r < rings.size(); r++) {
        int from = rings.get(r, FROM);
        int undone = rings.get(r, UNDONE);
        boolean stands = from <= day && (undone == NONE || day < undone);
        if (stands && (best == NONE || from >= rings.get(best, FROM))) {
          best = r;
        }
      }
      return best;
    }

    int placeOn(int day, int x, int y) {
      int ring = boundsOn(day);
      if (ring == NONE) {
        return OUT;
      }
      int n = rings.get(ring, LENGTH);
      int place = OUT;
      for (int k = 0; k < n && k < MOST_CORNERS; k++) {
        int a = rings.get(ring, CORNERS + k);
        int b = rings.get(ring, CORNERS + (k + 1 < n ? k + 1 : 0));
        if (isNear(a, b, x, y)) {
          return DOUBTFUL;
        }
        if (isLeftOf(a, b, x, y)) {
          place = IN - place;
        }
      }
      return place;
    }

    /** Whether the place is so near to the side as the strip tells; in squares, which stay whole. */
    private boolean isNear(int a, int b, int x, int y) {
      long dx = marks.get(b, X) - marks.get(a, X);
      long dy = marks.get(b, Y) - marks.get(a, Y);
      long px = x - marks.get(a, X);
      long py = y - marks.get(a, Y);
      long along = px * dx + py * dy;
      long side = dx * dx + dy * dy;
      long reach = (long) strip * strip;
      if (along <= 0) {
        return px * px + py * py <= reach;
      }
      if (along >= side) {
        return (px - dx) * (px - dx) + (py - dy) * (py - dy) <= reach;
      }
      long off = px * dy - py * dx;
      return off * off <= reach * side;
    }

    /**
     * Whether the place sees the side straight towards greater x. A corner at its height counts for sides to greater y
     * alone: so it is seen once where the ring goes on, and twice or never where it turns back.
     */
    private boolean isLeftOf(int a, int b, int x, int y) {
      int fromX = marks.get(a, X);
      int fromY = marks.get(a, Y);
      int toY = marks.get(b, Y);
      int hand = handOf(marks.get(b, X) - fromX, toY - fromY, x - fromX, y - fromY);
      return fromY <= y && toY > y && hand > 0 || fromY > y && toY <= y && hand < 0;
    }
  }

  /** The search for the shortest simple ring by names. */
  private static final class Search {
    static final int LEAST_NAMES = 3;
    static final int MOST_NAMES = 6;

    private final Ground ground;
    private final int[] names;
    private final int[] row;
    private final int[] best;
    private int size;
    private int shortest;
    private int found;

    Search(Ground ground) {
      this.ground = ground;
      names = new int[MOST_NAMES];
      row = new int[MOST_NAMES];
      best = new int[MOST_NAMES];
    }

    int go(Table tape) {
      int n = tape.size();
      found = 0;
      if (n < LEAST_NAMES || n > MOST_NAMES) {
        return -2;
      }
      size = n;
      for (int k = 0; k < n && k < names.length; k++) {
        names[k] = tape.get(k, 0);
      }
      tryMarks(0, 0);
      return found > 0 ? shortest : -1;
    }

    int markAt(int k) {
      return found > 0 && k >= 0 && k < size && k < best.length ? best[k] : NONE;
    }

    /** Marks are tried by number, so that the first of the shortest rings is met first. */
    private void tryMarks(int k, int length) {
      if (k >= size || k >= row.length || k >= names.length) {
        tryRing(length);
        return;
      }
      for (int m = 0; m < ground.marks.size(); m++) {
        if (ground.marks.get(m, Ground.NAME) != names[k]) {
          continue;
        }
        row[k] = m;
        if (ground.follows(row, k)) {
          tryMarks(k + 1, k == 0 ? 0 : length + ground.wayOf(row[k - 1], m));
        }
      }
    }

    private void tryRing(int open) {
      if (size < LEAST_NAMES || size > row.length || !ground.closes(row, size)) {
        return;
      }
      int length = open + ground.wayOf(row[size - 1], row[0]);
      found++;
      if (found == 1 || length < shortest) {
        shortest = length;
        for (int k = 0; k < size && k < best.length; k++) {
          best[k] = row[k];
        }
      }
    }
  }

  /**
   * Reads one text from the left and stops at its first fault. What it reads becomes rows of clauses,
   * and conditions and fines become code in which a sign stands behind the values that it joins.
   */
  private static final class Reader {
    static final int MISPLACED = 1;
    static final int WRONG_NUMBER = 2;
    static final int TOO_MANY = 3;

    static final int MOST_CLAUSES = 12;
    static final int MOST_OPEN = 8;
    static final int MOST_NUMBER = 9999;

    static final String CLAUSE_WORDS = "bar allow strike fine undo heirs courts use";
    static final String ACT_WORDS = "cut hunt dogs swine clear build";
    static final String HEIR_WORDS = "free owe";
    static final String FACT_WORDS = "many month rank year in doubt";
    static final String PICK_WORDS = "least most";

    private final Table tape;
    private final Table clauses;
    private final Table code;
    private int end;
    private int at;
    private int text;
    private int fault;
    private int place;

    Reader(Table tape, Table clauses, Table code) {
      this.tape = tape;
      this.clauses = clauses;
      this.code = code;
    }

    /** Begins to read the tape as the text of that number. */
    void begin(int number) {
      end = tape.size();
      at = 0;
      text = number;
      fault = 0;
      place = NONE;
    }

    /** Whether a clause stands next, behind blanks, and nothing is wrong so far. */
    boolean goesOn() {
      skipBlanks();
      return fault == 0 && at < end;
    }

    void readClause(int order) {
      int start = at;
      int kind = takeWord(CLAUSE_WORDS);
      if (kind == NONE) {
        fail(MISPLACED, at);
        return;
      }
      if (order >= MOST_CLAUSES) {
        fail(TOO_MANY, start);
        return;
      }
      int row = clauses.add();
      clauses.put(row, Laws.TEXT, text);
      clauses.put(row, Laws.ORDER, order);
      clauses.put(row, Laws.KIND, kind);
      clauses.put(row, Laws.CODE, code.size());
      boolean good;
      switch (kind) {
        case Laws.BAR:
        case Laws.ALLOW:
          good = readAct(row) && (takeWord("if") == NONE || readEither(0));
          break;
        case Laws.STRIKE:
          good = readAct(row);
          break;
        case Laws.FINE:
          good = readAct(row) && needSign('=') && readSum(0);
          break;
        case Laws.UNDO:
          good = readNumber(row, Laws.NUMBERS, 0, text - 1);
          break;
        case Laws.HEIRS:
          good = readHeirs(row);
          break;
        case Laws.COURTS:
          good = readNumber(row, Laws.NUMBERS, 1, 4000)
              && readNumber(row, Laws.NUMBERS + 1, 1, 4000)
              && readNumber(row, Laws.NUMBERS + 2, 1, 4000);
          break;
        default:
          good = readNumber(row, Laws.NUMBERS, 1, 60);
          break;
      }
      clauses.put(row, Laws.CODE_END, code.size());
      if (good) {
        needSign(';');
      }
    }

    private boolean readAct(int row) {
      int act = takeWord(ACT_WORDS);
      clauses.put(row, Laws.ACT, act);
      return act != NONE || fail(MISPLACED, at);
    }

    private boolean readHeirs(int row) {
      int owe = takeWord(HEIR_WORDS);
      clauses.put(row, Laws.NUMBERS, owe);
      return owe != NONE || fail(MISPLACED, at);
    }

    private boolean readNumber(int row, int column, int least, int most) {
      int number = takeNumber(least, most);
      clauses.put(row, column, number);
      return number != NONE;
    }

    /** C: open is how many of ( [ and not are open, which keeps the reading from going too deep. */
    private boolean readEither(int open) {
      boolean good = readBoth(open);
      for (int k = 0; k < TAPE_BYTES && good && takeWord("or") != NONE; k++) {
        good = readBoth(open) && emit(Laws.OR);
      }
      return good;
    }

    private boolean readBoth(int open) {
      boolean good = readTest(open);
      for (int k = 0; k < TAPE_BYTES && good && takeWord("and") != NONE; k++) {
        good = readTest(open) && emit(Laws.AND);
      }
      return good;
    }

    private boolean readTest(int open) {
      skipBlanks();
      int start = at;
      if (takeWord("not") != NONE) {
        return mayOpen(open, start) && readTest(open + 1) && emit(Laws.NOT);
      }
      if (takeSign('[')) {
        return mayOpen(open, start) && readEither(open + 1) && needSign(']');
      }
      if (!readSum(open)) {
        return false;
      }
      if (takeSign('<')) {
        return readSum(open) && emit(Laws.LESS);
      }
      if (takeSign('>')) {
        return readSum(open) && emit(Laws.MORE);
      }
      return needSign('=') && readSum(open) && emit(Laws.SAME);
    }

    private boolean readSum(int open) {
      boolean good = readProduct(open);
      for (int k = 0; k < TAPE_BYTES && good; k++) {
        if (takeSign('+')) {
          good = readProduct(open) && emit(Laws.ADD);
        } else if (takeSign('-')) {
          good = readProduct(open) && emit(Laws.SUBTRACT);
        } else {
          break;
        }
      }
      return good;
    }

    private boolean readProduct(int open) {
      boolean good = readValue(open);
      for (int k = 0; k < TAPE_BYTES && good; k++) {
        if (takeSign('*')) {
          good = readValue(open) && emit(Laws.MULTIPLY);
        } else if (takeSign('/')) {
          good = readValue(open) && emit(Laws.DIVIDE);
        } else {
          break;
        }
      }
      return good;
    }

    private boolean readValue(int open) {
      skipBlanks();
      int start = at;
      if (isDigit(tape.get(at, 0))) {
        int number = takeNumber(0, MOST_NUMBER);
        return number != NONE && emit(number);
      }
      if (takeSign('(')) {
        return mayOpen(open, start) && readSum(open + 1) && needSign(')');
      }
      int fact = takeWord(FACT_WORDS);
      if (fact != NONE) {
        return emit(Laws.FACTS + fact);
      }
      int pick = takeWord(PICK_WORDS);
      return pick != NONE ? readPick(open, pick) : fail(MISPLACED, at);
    }

    private boolean readPick(int open, int pick) {
      skipBlanks();
      int start = at;
      return needSign('(') && mayOpen(open, start)
          && readSum(open + 1) && needSign(',') && readSum(open + 1) && needSign(')')
          && emit(Laws.LEAST + pick);
    }

    private boolean mayOpen(int open, int start) {
      return open < MOST_OPEN || fail(TOO_MANY, start);
    }

    private boolean emit(int sign) {
      code.put(code.add(), 0, sign);
      return true;
    }

    private boolean fail(int kind, int where) {
      fault = kind;
      place = where;
      return false;
    }

    private void skipBlanks() {
      for (int k = at; k < end && tape.get(k, 0) == ' '; k++) {
        at = k + 1;
      }
    }

    private boolean takeSign(int sign) {
      skipBlanks();
      return tape.get(at, 0) == sign && goPast();
    }

    private boolean needSign(int sign) {
      skipBlanks();
      return tape.get(at, 0) == sign ? goPast() : fail(MISPLACED, at);
    }

    private boolean goPast() {
      at++;
      return true;
    }

    /** Takes a number that is within these; NONE, with its fault, if there is none such. */
    private int takeNumber(int least, int most) {
      skipBlanks();
      int start = at;
      int number = 0;
      for (int k = start; k < end && isDigit(tape.get(k, 0)); k++) {
        number = Math.min(number * 10 + tape.get(k, 0) - '0', MOST_NUMBER + 1);
        at = k + 1;
      }
      if (at == start) {
        fail(MISPLACED, start);
        return NONE;
      }
      if (!within(number, least, most)) {
        fail(WRONG_NUMBER, start);
        return NONE;
      }
      return number;
    }

    /** Which of these words, with blanks between them, stands here: it is taken; NONE, taking nothing. */
    private int takeWord(String words) {
      skipBlanks();
      int stop = at;
      for (int k = at; k < end && isLetter(tape.get(k, 0)); k++) {
        stop = k + 1;
      }
      int from = 0;
      int number = 0;
      for (int k = 0; k <= words.length(); k++) {
        if (k < words.length() && words.charAt(k) != ' ') {
          continue;
        }
        if (isWord(words, from, k, stop)) {
          at = stop;
          return number;
        }
        from = k + 1;
        number++;
      }
      return NONE;
    }

    private boolean isWord(String words, int from, int to, int stop) {
      if (to - from != stop - at || to > words.length()) {
        return false;
      }
      for (int k = from; k < to; k++) {
        if (words.charAt(k) != tape.get(at + k - from, 0)) {
          return false;
        }
      }
      return true;
    }

    private static boolean isDigit(int sign) {
      return within(sign, '0', '9');
    }

    private static boolean isLetter(int sign) {
      return within(sign, 'a', 'z');
    }
  }

  /** Texts, which of them are in force, and what they say. */
  private static final class Laws {
    static final int BAR = 0;
    static final int ALLOW = 1;
    static final int STRIKE = 2;
    static final int FINE = 3;
    static final int UNDO = 4;
    static final int HEIRS = 5;
    static final int COURTS = 6;
    static final int USE = 7;

    static final int TEXT = 0;
    static final int ORDER = 1;
    static final int KIND = 2;
    static final int ACT = 3;
    static final int CODE = 4;
    static final int CODE_END = 5;
    static final int NUMBERS = 6;

    static final int FROM = 0;
    static final int UNDOES = 1;
    static final int RULES = 2;

    /** Signs of the code stand above every number that a text may tell. */
    static final int FACTS = 10000;
    static final int SIGNS = 10010;
    static final int NOT = 10010;
    static final int AND = 10011;
    static final int OR = 10012;
    static final int LESS = 10013;
    static final int MORE = 10014;
    static final int SAME = 10015;
    static final int ADD = 10016;
    static final int SUBTRACT = 10017;
    static final int MULTIPLY = 10018;
    static final int DIVIDE = 10019;
    static final int LEAST = 10020;
    static final int MOST = 10021;

    static final int MOST_TEXTS = 10;
    static final int MOST_FINE = 10000;
    /** Eight that are open hold back three values each at most, and some stand outside of all. */
    static final int MOST_HELD = 64;

    static final int RULE_USE = 3;
    static final int RULE_HEIRS = 4;
    private static final int[] PLAIN_RULES = {40, 120, 1080, 20, 1};

    final Table texts;
    private final Table clauses;
    private final Table code;
    private final Reader reader;
    private final int[] held;
    private int faultPlace;
    private int word;
    private int saidFine;

    Laws(Table tape) {
      texts = new Table(RULES + 5, MOST_TEXTS);
      clauses = new Table(NUMBERS + 3, MOST_TEXTS * Reader.MOST_CLAUSES);
      code = new Table(1, MOST_TEXTS * TAPE_BYTES);
      reader = new Reader(tape, clauses, code);
      held = new int[MOST_HELD];
      faultPlace = NONE;
      word = NONE;
      saidFine = NONE;
    }

    int addText(int day) {
      faultPlace = NONE;
      if (texts.isFull()) {
        return -1;
      }
      int firstClause = clauses.size();
      int firstCode = code.size();
      reader.begin(texts.size());
      for (int k = 0; k <= Reader.MOST_CLAUSES && reader.goesOn(); k++) {
        reader.readClause(k);
      }
      if (reader.fault != 0) {
        faultPlace = reader.place;
        clauses.cut(firstClause);
        code.cut(firstCode);
        return reader.fault - 10;
      }
      int text = texts.add();
      texts.put(text, FROM, day);
      texts.put(text, UNDOES, 0);
      for (int row = firstClause; row < clauses.size(); row++) {
        keepRule(text, row);
      }
      return text;
    }

    /** What a text says of other texts and of rules is kept with it, as each day asks for it. */
    private void keepRule(int text, int row) {
      int number = clauses.get(row, NUMBERS);
      switch (clauses.get(row, KIND)) {
        case UNDO:
          texts.put(text, UNDOES, texts.get(text, UNDOES) | 1 << number);
          break;
        case COURTS:
          for (int k = 0; k < RULE_USE; k++) {
            texts.put(text, RULES + k, clauses.get(row, NUMBERS + k));
          }
          break;
        case USE:
          texts.put(text, RULES + RULE_USE, number);
          break;
        case HEIRS:
          texts.put(text, RULES + RULE_HEIRS, number);
          break;
        default:
          break;
      }
    }

    /** A bit for each text in force; the later ones first, as they alone can undo. */
    int forceOn(int day) {
      int inForce = 0;
      int undone = 0;
      for (int t = texts.size() - 1; t >= 0; t--) {
        if (texts.get(t, FROM) <= day && (undone >> t & 1) == 0) {
          inForce |= 1 << t;
          undone |= texts.get(t, UNDOES);
        }
      }
      return inForce;
    }

    /** The first day behind this one on which a text begins; one behind all days without. */
    int nextChange(int day) {
      int next = LAST_DAY + 1;
      for (int t = 0; t < texts.size(); t++) {
        int from = texts.get(t, FROM);
        next = from > day && from < next ? from : next;
      }
      return next;
    }

    int ruleOn(int day, int what) {
      if (what < 0 || what >= PLAIN_RULES.length) {
        return NONE;
      }
      int inForce = forceOn(day);
      for (int t = texts.size() - 1; t >= 0; t--) {
        int number = texts.get(t, RULES + what);
        if ((inForce >> t & 1) == 1 && number != NONE) {
          return number;
        }
      }
      return PLAIN_RULES[what];
    }

    /** Finds the word and the fine on an act of a day with these facts. */
    void hear(int act, int day, Table facts) {
      int inForce = forceOn(day);
      word = NONE;
      saidFine = NONE;
      for (int row = 0; row < clauses.size(); row++) {
        if ((inForce >> clauses.get(row, TEXT) & 1) == 0 || clauses.get(row, ACT) != act) {
          continue;
        }
        int kind = clauses.get(row, KIND);
        if (kind == STRIKE) {
          word = NONE;
          saidFine = NONE;
        } else if (kind == FINE) {
          saidFine = Math.max(0, Math.min(MOST_FINE, valueOf(row, facts)));
        } else if (isWithoutIf(row) || valueOf(row, facts) != 0) {
          word = row;
        }
      }
    }

    boolean wordIsBar() {
      return word != NONE && clauses.get(word, KIND) == BAR;
    }

    int wordNumber() {
      return word == NONE ? NONE : 100 * clauses.get(word, TEXT) + clauses.get(word, ORDER);
    }

    int fineOr(int without) {
      return saidFine == NONE ? without : saidFine;
    }

    private boolean isWithoutIf(int row) {
      return clauses.get(row, CODE) == clauses.get(row, CODE_END);
    }

    private int valueOf(int row, Table facts) {
      int top = 0;
      for (int k = clauses.get(row, CODE); k < clauses.get(row, CODE_END); k++) {
        int sign = code.get(k, 0);
        if (sign < SIGNS && top < held.length) {
          held[top] = sign < FACTS ? sign : facts.get(0, sign - FACTS);
          top++;
        } else if (sign == NOT && top >= 1) {
          held[top - 1] = 1 - held[top - 1];
        } else if (top >= 2) {
          held[top - 2] = join(sign, held[top - 2], held[top - 1]);
          top--;
        }
      }
      return held.length > 0 ? held[0] : 0;
    }

    private static int join(int sign, int a, int b) {
      switch (sign) {
        case AND: return a & b;
        case OR: return a | b;
        case LESS: return a < b ? 1 : 0;
        case MORE: return a > b ? 1 : 0;
        case SAME: return a == b ? 1 : 0;
        case ADD: return a + b;
        case SUBTRACT: return a - b;
        case MULTIPLY: return a * b;
        case DIVIDE: return b == 0 ? 0 : a / b;
        case LEAST: return a < b ? a : b;
        default: return a > b ? a : b;
      }
    }
  }

  /** People, their coins and heirs. */
  private static final class People {
    static final int RANK = 0;
    static final int COINS = 1;
    static final int DEATH = 2;
    static final int HEIR = 3;

    static final int MOST_COINS = 1000000;

    final Table rows;

    People() {
      rows = new Table(4, 40);
    }

    int addPerson(int rank, int coins) {
      int person = rows.add();
      rows.put(person, RANK, rank);
      rows.put(person, COINS, coins);
      return person;
    }

    boolean lives(int person) {
      return rows.has(person) && rows.get(person, DEATH) == NONE;
    }

    /**
     * Who lives is found in so many steps as there are people, or else one comes again: so, too, the first one,
     * who is asked about and may live.
     */
    int heirOf(int person) {
      int next = person;
      for (int k = 0; k < rows.size(); k++) {
        next = rows.get(next, HEIR);
        if (next == person) {
          return NONE;
        }
        if (next == NONE || lives(next)) {
          return next;
        }
      }
      return NONE;
    }

    int pay(int person, int due) {
      int paid = Math.max(0, Math.min(due, rows.get(person, COINS)));
      rows.raise(person, COINS, -paid);
      return paid;
    }

    void give(int person, int coins) {
      rows.put(person, COINS, Math.min(MOST_COINS, rows.get(person, COINS) + coins));
    }
  }

  /** Claims by long use. */
  private static final class Claims {
    static final int PERSON = 0;
    static final int ACT = 1;
    static final int X = 2;
    static final int Y = 3;
    static final int EVENTS = 4;

    static final int CLAIM = 0;
    static final int KIND = 1;
    static final int DAY = 2;

    static final int BREAK = 1;

    static final int MOST_CLAIMS = 20;
    static final int MOST_EVENTS = 60;
    static final int NEAR = 20;

    static final int NOT_AT_ALL = 0;
    static final int PERHAPS = 1;
    static final int SURE = 2;

    final Table rows;
    private final Table events;
    private final People people;
    private final Laws laws;

    Claims(People people, Laws laws) {
      this.people = people;
      this.laws = laws;
      rows = new Table(5, MOST_CLAIMS);
      events = new Table(3, MOST_CLAIMS * MOST_EVENTS);
    }

    int addClaim(int person, int act, int x, int y) {
      int claim = rows.add();
      rows.put(claim, PERSON, person);
      rows.put(claim, ACT, act);
      rows.put(claim, X, x);
      rows.put(claim, Y, y);
      rows.put(claim, EVENTS, 0);
      return claim;
    }

    int addEvent(int claim, int kind, int day) {
      if (rows.get(claim, EVENTS) >= MOST_EVENTS) {
        return -1;
      }
      int event = events.add();
      events.put(event, CLAIM, claim);
      events.put(event, KIND, kind);
      events.put(event, DAY, day);
      return rows.raise(claim, EVENTS, 1);
    }

    int sureOn(int claim, int day) {
      int years = laws.ruleOn(day, Laws.RULE_USE);
      long used = 0;
      for (int e = 0; e < events.size(); e++) {
        int ago = day - events.get(e, DAY);
        if (events.get(e, CLAIM) != claim || ago < 0 || ago / YEAR_DAYS >= years) {
          continue;
        }
        if (events.get(e, KIND) == BREAK) {
          return NOT_AT_ALL;
        }
        used |= 1L << ago / YEAR_DAYS;
      }
      int usedYears = Long.bitCount(used);
      if (usedYears == years) {
        return SURE;
      }
      return 2 * usedYears >= years ? PERHAPS : NOT_AT_ALL;
    }

    boolean allows(int person, int act, int x, int y, int day) {
      for (int c = 0; c < rows.size(); c++) {
        boolean near = wayBetween(x, y, rows.get(c, X), rows.get(c, Y)) <= NEAR;
        if (near && rows.get(c, ACT) == act && isHeldBy(c, person) && sureOn(c, day) == SURE) {
          return true;
        }
      }
      return false;
    }

    private boolean isHeldBy(int claim, int person) {
      int first = rows.get(claim, PERSON);
      return first == person || !people.lives(first) && people.heirOf(first) == person;
    }
  }

  /** Deeds and what comes of them in the courts. */
  private static final class Courts {
    static final int PERSON = 0;
    static final int WEIGHT = 1;
    static final int SHARE = 2;
    static final int LODGE_X = 3;
    static final int LODGE_Y = 4;
    static final int REACH = 5;

    static final int ACT = 1;
    static final int X = 2;
    static final int Y = 3;
    static final int DAY = 4;
    static final int MANY = 5;
    static final int PRESENTMENT = 6;

    /** The first eight are as the face numbers them. */
    static final int STATE = 0;
    static final int ACCUSED = 1;
    static final int SINCE = 2;
    static final int LEFT = 3;
    static final int PAID_BY = 4;
    static final int GOT = 7;
    static final int DEED = 8;
    static final int WARDEN = 9;
    static final int PLEDGES = 10;
    static final int PROOFS = 12;

    static final int COURTS = 3;

    static final int PRESENTED = 0;
    static final int ATTACHED = 1;
    static final int FOUND = 2;
    static final int PAID = 3;
    static final int OWED = 4;
    static final int QUASHED = 5;
    static final int DEAD = 6;

    /** Facts stand as the words for them do. */
    static final int HOW_MANY = 0;
    static final int MONTH = 1;
    static final int RANK = 2;
    static final int YEAR = 3;
    static final int IS_IN = 4;
    static final int IS_DOUBTFUL = 5;

    static final int MOST_PRESENTMENTS = 40;
    static final int NOT_OPEN = -1000;

    final Table wardens;
    final Table deeds;
    final Table presentments;
    private final Ground ground;
    private final Laws laws;
    private final People people;
    private final Claims claims;
    private final Table facts;
    private final int[] every;
    private int changeDay;
    private int textsThen;
    private int today;
    private int chest;

    Courts(Ground ground, Laws laws, People people, Claims claims) {
      this.ground = ground;
      this.laws = laws;
      this.people = people;
      this.claims = claims;
      wardens = new Table(6, 6);
      deeds = new Table(7, 60);
      presentments = new Table(PROOFS + 1, MOST_PRESENTMENTS);
      facts = new Table(IS_DOUBTFUL + 1, 1);
      facts.add();
      every = new int[COURTS];
    }

    int addWarden(int person, int weight, int share) {
      int warden = wardens.add();
      wardens.put(warden, PERSON, person);
      wardens.put(warden, WEIGHT, weight);
      wardens.put(warden, SHARE, share);
      return warden;
    }

    int addDeed(int person, int act, int x, int y, int day, int many) {
      int deed = deeds.add();
      deeds.put(deed, PERSON, person);
      deeds.put(deed, ACT, act);
      deeds.put(deed, X, x);
      deeds.put(deed, Y, y);
      deeds.put(deed, DAY, day);
      deeds.put(deed, MANY, many);
      return deed;
    }

    /** Lets the laws find their word and fine on a deed. */
    void hearLaws(int deed) {
      int day = deeds.get(deed, DAY);
      int place = ground.placeOn(day, deeds.get(deed, X), deeds.get(deed, Y));
      facts.put(0, HOW_MANY, deeds.get(deed, MANY));
      facts.put(0, MONTH, day / MONTH_DAYS % YEAR_MONTHS);
      facts.put(0, RANK, people.rows.get(deeds.get(deed, PERSON), People.RANK));
      facts.put(0, YEAR, day / YEAR_DAYS);
      facts.put(0, IS_IN, place == IN ? 1 : 0);
      facts.put(0, IS_DOUBTFUL, place == DOUBTFUL ? 1 : 0);
      laws.hear(deeds.get(deed, ACT), day, facts);
    }

    int fineOf(int deed) {
      hearLaws(deed);
      return laws.fineOr(deeds.get(deed, MANY));
    }

    boolean isBarred(int deed) {
      hearLaws(deed);
      boolean isOut = facts.get(0, IS_IN) + facts.get(0, IS_DOUBTFUL) == 0;
      if (!laws.wordIsBar() || isOut) {
        return false;
      }
      return !claims.allows(deeds.get(deed, PERSON), deeds.get(deed, ACT),
          deeds.get(deed, X), deeds.get(deed, Y), deeds.get(deed, DAY));
    }

    int addPresentment(int deed, int warden, int one, int other) {
      if (presentments.isFull()) {
        return -1;
      }
      if (deeds.get(deed, PRESENTMENT) != NONE) {
        return -2;
      }
      if (!isBarred(deed)) {
        return -3;
      }
      int accused = deeds.get(deed, PERSON);
      if (!people.lives(one) || !people.lives(other) || one == accused || other == accused || one == other) {
        return -4;
      }
      int p = presentments.add();
      deeds.put(deed, PRESENTMENT, p);
      presentments.put(p, STATE, PRESENTED);
      presentments.put(p, ACCUSED, accused);
      presentments.put(p, SINCE, today);
      presentments.put(p, DEED, deed);
      presentments.put(p, WARDEN, warden);
      presentments.put(p, PLEDGES, one);
      presentments.put(p, PLEDGES + 1, other);
      presentments.put(p, PROOFS, 0);
      for (int column = PAID_BY; column <= GOT; column++) {
        presentments.put(p, column, 0);
      }
      return p;
    }

    int addProof(int p, int proof) {
      int state = presentments.get(p, STATE);
      if (state != PRESENTED && state != ATTACHED) {
        return NOT_OPEN;
      }
      return presentments.raise(p, PROOFS, proof);
    }

    /** The courts sit one behind the other, so that none hears what another one did on that day. */
    void beginDay() {
      today++;
      if (today >= changeDay || laws.texts.size() != textsThen) {
        readRules();
      }
      for (int court = 0; court < every.length; court++) {
        boolean sits = every[court] > 0 && today % every[court] == 0;
        for (int p = 0; sits && p < presentments.size(); p++) {
          if (!comesUp(p, court) || !findAccused(p)) {
            continue;
          }
          if (court == 0) {
            attach(p);
          } else if (court == 1) {
            find(p);
          } else {
            askFor(p);
          }
        }
      }
    }

    /** Days are many and texts are few, so the courts' times are kept until a text begins or a new one is told. */
    private void readRules() {
      for (int court = 0; court < every.length; court++) {
        every[court] = laws.ruleOn(today, court);
      }
      changeDay = laws.nextChange(today);
      textsThen = laws.texts.size();
    }

    /** The first three states are numbered as the courts that wait for them. */
    private boolean comesUp(int p, int court) {
      int state = presentments.get(p, STATE);
      boolean isDue = state == court || state == OWED && court == COURTS - 1;
      return isDue && presentments.get(p, SINCE) < today;
    }

    private void attach(int p) {
      int weight = wardens.get(presentments.get(p, WARDEN), WEIGHT);
      settle(p, weight + presentments.get(p, PROOFS) <= 0 ? QUASHED : ATTACHED);
    }

    private void find(int p) {
      int deed = presentments.get(p, DEED);
      int place = ground.placeOn(deeds.get(deed, DAY), deeds.get(deed, X), deeds.get(deed, Y));
      settle(p, place == DOUBTFUL && presentments.get(p, PROOFS) <= 0 ? QUASHED : FOUND);
    }

    private void settle(int p, int state) {
      if (presentments.get(p, STATE) != state) {
        presentments.put(p, STATE, state);
        presentments.put(p, SINCE, today);
      }
    }

    /** Whether somebody who lives answers for it; else it is dead. */
    private boolean findAccused(int p) {
      int accused = presentments.get(p, ACCUSED);
      if (people.lives(accused)) {
        return true;
      }
      boolean heirsOwe = laws.ruleOn(today, Laws.RULE_HEIRS) == 1;
      int heir = heirsOwe ? people.heirOf(accused) : NONE;
      if (heir == NONE) {
        settle(p, DEAD);
        presentments.put(p, LEFT, NONE);
        return false;
      }
      presentments.put(p, ACCUSED, heir);
      return true;
    }

    private void askFor(int p) {
      boolean again = presentments.get(p, STATE) == OWED;
      int left = again ? presentments.get(p, LEFT) : fineOf(presentments.get(p, DEED));
      left -= charge(p, 0, presentments.get(p, ACCUSED), left);
      int lesser = left / 2;
      int greater = left - lesser;
      left -= charge(p, 1, whoPaysFor(presentments.get(p, PLEDGES)), greater);
      left -= charge(p, 2, whoPaysFor(presentments.get(p, PLEDGES + 1)), lesser);
      presentments.put(p, LEFT, left);
      settle(p, left == 0 ? PAID : OWED);
    }

    private int whoPaysFor(int pledge) {
      return people.lives(pledge) ? pledge : people.heirOf(pledge);
    }

    private int charge(int p, int part, int payer, int due) {
      if (payer == NONE) {
        return 0;
      }
      int paid = people.pay(payer, due);
      int warden = presentments.get(p, WARDEN);
      int gets = wardens.get(warden, PERSON);
      int share = people.lives(gets) ? paid * wardens.get(warden, SHARE) / 100 : 0;
      people.give(gets, share);
      chest += paid - share;
      presentments.raise(p, PAID_BY + part, paid);
      presentments.raise(p, GOT, share);
      return paid;
    }
  }

  /** Rolls of four hands, and how they are joined. */
  private static final class Rolls {
    static final int HAND = 0;
    static final int PRESENTMENT = 1;
    static final int SUM = 2;

    static final int HANDS = 4;
    static final int MOST_ENTRIES = 8;
    static final int MOST_LISTED = 8;

    private final Table entries;
    private final int[] listed;
    private final int[] against;
    private final int[] least;
    private final int[] order;
    private int size;
    private boolean tooMany;
    private boolean stale;

    Rolls() {
      entries = new Table(3, HANDS * MOST_ENTRIES);
      listed = new int[MOST_LISTED];
      against = new int[MOST_LISTED * MOST_LISTED];
      least = new int[1 << MOST_LISTED];
      order = new int[MOST_LISTED];
    }

    int addEntry(int hand, int presentment, int sum) {
      int inRoll = 0;
      boolean twice = false;
      for (int e = 0; e < entries.size(); e++) {
        if (entries.get(e, HAND) == hand) {
          inRoll++;
          twice |= entries.get(e, PRESENTMENT) == presentment;
        }
      }
      if (inRoll >= MOST_ENTRIES) {
        return -1;
      }
      if (twice) {
        return -2;
      }
      int entry = entries.add();
      entries.put(entry, HAND, hand);
      entries.put(entry, PRESENTMENT, presentment);
      entries.put(entry, SUM, sum);
      stale = true;
      return inRoll + 1;
    }

    int leastQuarrel() {
      join();
      return tooMany || least.length == 0 ? NONE : least[0];
    }

    int entryAt(int k) {
      join();
      return !tooMany && k >= 0 && k < size && k < order.length ? order[k] : NONE;
    }

    int sumAt(int k) {
      int presentment = entryAt(k);
      int best = NONE;
      int bestApart = 0;
      for (int e = 0; e < entries.size(); e++) {
        if (presentment == NONE || entries.get(e, PRESENTMENT) != presentment) {
          continue;
        }
        int sum = entries.get(e, SUM);
        int apart = apartFrom(presentment, sum);
        if (best == NONE || apart < bestApart || apart == bestApart && sum < best) {
          best = sum;
          bestApart = apart;
        }
      }
      return best;
    }

    private int apartFrom(int presentment, int sum) {
      int apart = 0;
      for (int e = 0; e < entries.size(); e++) {
        if (entries.get(e, PRESENTMENT) == presentment) {
          apart += Math.abs(entries.get(e, SUM) - sum);
        }
      }
      return apart;
    }

    /** Joining is dear, so it is done anew only when an entry has come. */
    private void join() {
      if (!stale) {
        return;
      }
      stale = false;
      list();
      if (!tooMany) {
        weigh();
        measure();
        choose();
      }
    }

    private void list() {
      size = 0;
      tooMany = false;
      for (int presentment = 0; presentment < Courts.MOST_PRESENTMENTS; presentment++) {
        boolean isListed = false;
        for (int e = 0; e < entries.size(); e++) {
          isListed |= entries.get(e, PRESENTMENT) == presentment;
        }
        if (isListed && size < listed.length) {
          listed[size] = presentment;
          size++;
        } else if (isListed) {
          tooMany = true;
        }
      }
    }

    /** Against the i-th listed ahead of the j-th are the hands in which it stands behind. */
    private void weigh() {
      Arrays.fill(against, 0);
      for (int early = 0; early < entries.size(); early++) {
        for (int late = early + 1; late < entries.size(); late++) {
          if (entries.get(early, HAND) != entries.get(late, HAND)) {
            continue;
          }
          int at = placeOf(late) * MOST_LISTED + placeOf(early);
          if (at >= 0 && at < against.length) {
            against[at]++;
          }
        }
      }
    }

    private int placeOf(int entry) {
      for (int i = 0; i < size && i < listed.length; i++) {
        if (listed[i] == entries.get(entry, PRESENTMENT)) {
          return i;
        }
      }
      return NONE;
    }

    /** The least quarrel among those that are not put yet, for each set of those that are. */
    private void measure() {
      int all = (1 << size) - 1;
      for (int put = Math.min(all, least.length - 1); put >= 0; put--) {
        least[put] = put == all ? 0 : NONE;
        for (int i = 0; i < size; i++) {
          if ((put >> i & 1) == 0) {
            int quarrel = quarrelOf(i, put);
            least[put] = least[put] == NONE ? quarrel : Math.min(least[put], quarrel);
          }
        }
      }
    }

    /** The least quarrel, if the i-th listed is put next behind those that are put. */
    private int quarrelOf(int i, int put) {
      int after = put | 1 << i;
      int quarrel = after < least.length ? least[after] : 0;
      for (int j = 0; j < size; j++) {
        int at = i * MOST_LISTED + j;
        if ((after >> j & 1) == 0 && at < against.length) {
          quarrel += against[at];
        }
      }
      return quarrel;
    }

    private void choose() {
      int put = 0;
      for (int k = 0; k < size && k < order.length; k++) {
        for (int i = 0; i < size && i < listed.length; i++) {
          if ((put >> i & 1) == 0 && put < least.length && quarrelOf(i, put) == least[put]) {
            order[k] = listed[i];
            put |= 1 << i;
            break;
          }
        }
      }
    }
  }

  /** Lodges, spots, and who goes to which. */
  private static final class Patrols {
    static final int X = 0;
    static final int Y = 1;
    static final int WORTH = 2;

    static final int MOST_SPOTS = 8;
    static final int SETS = 1 << MOST_SPOTS;
    static final int FAR = 1000000;

    private final Table wardens;
    final Table spots;
    private final int[] path;
    private final boolean[] firstGoes;
    private final boolean[] secondGoes;
    private final int[] given;
    private final int[] tried;
    private int worth;
    private boolean stale;

    Patrols(Table wardens) {
      this.wardens = wardens;
      spots = new Table(3, MOST_SPOTS);
      path = new int[SETS * MOST_SPOTS];
      firstGoes = new boolean[SETS];
      secondGoes = new boolean[SETS];
      given = new int[MOST_SPOTS];
      tried = new int[MOST_SPOTS];
      stale = true;
    }

    void setLodge(int warden, int x, int y, int reach) {
      wardens.put(warden, Courts.LODGE_X, x);
      wardens.put(warden, Courts.LODGE_Y, y);
      wardens.put(warden, Courts.REACH, reach);
      stale = true;
    }

    int addSpot(int x, int y, int spotWorth) {
      int spot = spots.add();
      spots.put(spot, X, x);
      spots.put(spot, Y, y);
      spots.put(spot, WORTH, spotWorth);
      stale = true;
      return spot;
    }

    int wardenOf(int spot) {
      return spot >= 0 && spot < given.length ? given[spot] : NONE;
    }

    /** Planning is dear, so it is done anew only when a lodge or a spot has come. */
    void plan() {
      if (!stale) {
        return;
      }
      stale = false;
      int first = nextWithLodge(0);
      int second = first == NONE ? NONE : nextWithLodge(first + 1);
      measure(first, firstGoes);
      measure(second, secondGoes);
      choose(first, second);
    }

    private int nextWithLodge(int from) {
      for (int w = from; w < wardens.size(); w++) {
        if (wardens.get(w, Courts.REACH) != NONE) {
          return w;
        }
      }
      return NONE;
    }

    /** Tells of each set of spots whether the warden can go to all of it and back. */
    private void measure(int warden, boolean[] goes) {
      int sets = 1 << spots.size();
      for (int set = 0; set < sets && set < goes.length; set++) {
        goes[set] = set == 0 || warden != NONE && roundOf(warden, set) <= wardens.get(warden, Courts.REACH);
      }
    }

    /** The shortest round; the shortest paths of all lesser sets are there already. */
    private int roundOf(int warden, int set) {
      int round = FAR;
      for (int last = 0; last < spots.size(); last++) {
        int at = set * MOST_SPOTS + last;
        if ((set >> last & 1) == 1 && at < path.length) {
          path[at] = pathTo(warden, set, last);
          round = Math.min(round, path[at] + wayFromLodge(warden, last));
        }
      }
      return round;
    }

    private int pathTo(int warden, int set, int last) {
      int others = set & ~(1 << last);
      if (others == 0) {
        return wayFromLodge(warden, last);
      }
      int best = FAR;
      for (int s = 0; s < spots.size(); s++) {
        int at = others * MOST_SPOTS + s;
        if ((others >> s & 1) == 1 && at < path.length) {
          int way = wayBetween(spots.get(s, X), spots.get(s, Y), spots.get(last, X), spots.get(last, Y));
          best = Math.min(best, path[at] + way);
        }
      }
      return best;
    }

    private int wayFromLodge(int warden, int spot) {
      return wayBetween(wardens.get(warden, Courts.LODGE_X), wardens.get(warden, Courts.LODGE_Y),
          spots.get(spot, X), spots.get(spot, Y));
    }

    /** Ways are tried in the order in which the first of the best is wanted. */
    private void choose(int first, int second) {
      int ways = 1;
      for (int s = 0; s < spots.size(); s++) {
        ways *= 3;
      }
      worth = NONE;
      for (int way = 0; way < ways; way++) {
        int got = tryWay(way);
        if (got > worth) {
          worth = got;
          for (int s = 0; s < spots.size() && s < given.length && s < tried.length; s++) {
            given[s] = tried[s] == 0 ? first : tried[s] == 1 ? second : NONE;
          }
        }
      }
    }

    /** The worth of a way, which has a digit for each spot, the last one lowest; NONE, if it can't be gone. */
    private int tryWay(int way) {
      int rest = way;
      int firstSet = 0;
      int secondSet = 0;
      int got = 0;
      for (int s = Math.min(spots.size(), tried.length) - 1; s >= 0; s--) {
        tried[s] = rest % 3;
        rest /= 3;
        firstSet |= tried[s] == 0 ? 1 << s : 0;
        secondSet |= tried[s] == 1 ? 1 << s : 0;
        got += tried[s] == 2 ? 0 : spots.get(s, WORTH);
      }
      boolean can = firstSet < firstGoes.length && firstGoes[firstSet]
          && secondSet < secondGoes.length && secondGoes[secondSet];
      return can ? got : NONE;
    }
  }

  /** Oaks and deer. */
  private static final class Woods {
    static final int YEAR = 0;
    static final int OAKS = 1;
    static final int DEER = 2;

    static final int WOOD = 0;
    static final int KIND = 1;
    static final int IN_YEAR = 2;
    static final int MANY = 3;
    static final int TOLD = 4;

    static final int MOST_STOCK = 1000000;

    final Table rows;
    final Table takings;

    Woods() {
      rows = new Table(3, 6);
      takings = new Table(5, 100);
    }

    int addWood(int year, int oaks, int deer) {
      int wood = rows.add();
      rows.put(wood, YEAR, year);
      rows.put(wood, OAKS, oaks);
      rows.put(wood, DEER, deer);
      return wood;
    }

    int firstYear(int wood) {
      return rows.get(wood, YEAR);
    }

    int addTaking(int wood, int kind, int year, int many, int day) {
      int taking = takings.add();
      if (taking == NONE) {
        return -1;
      }
      takings.put(taking, WOOD, wood);
      takings.put(taking, KIND, kind);
      takings.put(taking, IN_YEAR, year);
      takings.put(taking, MANY, many);
      takings.put(taking, TOLD, day);
      return takings.size();
    }

    int stockOf(int wood, int kind, int year, int known) {
      int oaks = rows.get(wood, OAKS);
      int deer = rows.get(wood, DEER);
      if (year < firstYear(wood)) {
        return NONE;
      }
      for (int y = firstYear(wood); y <= year; y++) {
        oaks = Math.max(0, oaks - takenIn(wood, 0, y, known));
        oaks = Math.min(MOST_STOCK, oaks + oaks / 50);
        deer = Math.max(0, deer - takenIn(wood, 1, y, known));
        deer = Math.min(deer + deer / 3, oaks / 10 + 5);
      }
      return kind == 0 ? oaks : deer;
    }

    private int takenIn(int wood, int kind, int year, int known) {
      int taken = 0;
      for (int t = 0; t < takings.size(); t++) {
        if (takings.get(t, IN_YEAR) == year && takings.get(t, WOOD) == wood
            && takings.get(t, KIND) == kind && takings.get(t, TOLD) <= known) {
          taken += takings.get(t, MANY);
        }
      }
      return taken;
    }
  }
}
