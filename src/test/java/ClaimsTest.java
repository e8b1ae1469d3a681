/** Promises 29 to 31 (claim, use, sure), and what a sure claim does to barred (23). */
public final class ClaimsTest {
  public static void main(String[] args) {
    Due due = new Due();
    arguments(due);
    years(due);
    halfOfThem(due);
    useOfThatDay(due);
    plainUse(due);
    near(due);
    ownNumbers(due);
    heirs(due);
    due.end();
  }

  private static void arguments(Due due) {
    ForestCourts x = new ForestCourts();
    x.person(0, 0);
    due.index("person 1", () -> x.claim(1, 0, 0, 0));
    due.index("person -1", () -> x.claim(-1, 0, 0, 0));
    due.index("person 1 and no act", () -> x.claim(1, 6, 0, 0));
    due.argument("act 6", () -> x.claim(0, 6, 0, 0));
    due.argument("act -1", () -> x.claim(0, -1, 0, 0));
    due.argument("x 1000", () -> x.claim(0, 0, 1000, 0));
    due.argument("y -1", () -> x.claim(0, 0, 0, -1));
    for (int k = 0; k < 20; k++) {
      due.same("claim " + k, x.claim(0, 5, 999, 999), k);
    }
    due.same("a 21st", x.claim(0, 0, 0, 0), -1);
    due.index("claim 20", () -> x.use(20, 0, 0));
    due.index("claim -1", () -> x.use(-1, 0, 0));
    due.index("claim 20 and no kind", () -> x.use(20, 2, 0));
    due.argument("kind 2", () -> x.use(0, 2, 0));
    due.argument("kind -1", () -> x.use(0, -1, 0));
    due.argument("day -1", () -> x.use(0, 0, -1));
    due.argument("day 100001", () -> x.use(0, 0, 100001));
    for (int k = 1; k <= 60; k++) {
      due.same("use " + k, x.use(0, k % 2, 100000), k);
    }
    due.same("a 61st", x.use(0, 0, 5), -1);
    due.argument("a 61st of no kind", () -> x.use(0, 2, 5));
    due.same("of another claim", x.use(19, 0, 5), 1);
    due.index("claim 20", () -> x.sure(20, 0));
    due.index("claim -1", () -> x.sure(-1, 0));
    due.index("claim 20 on no day", () -> x.sure(20, -1));
    due.argument("day -1", () -> x.sure(0, -1));
    due.argument("day 100001", () -> x.sure(0, 100001));
    due.same("no use yet on that day", x.sure(0, 99999), 0);
    due.same("broken on that day", x.sure(0, 100000), 0);
  }

  private static void years(Due due) {
    ForestCourts x = new ForestCourts();
    Due.text(x, 0, "use 2;");
    x.person(0, 0);
    x.claim(0, 0, 0, 0);
    x.use(0, 0, 1000);
    x.use(0, 0, 1400);
    due.same("ahead of all", x.sure(0, 999), 0);
    due.same("in one of two", x.sure(0, 1000), 1);
    due.same("both, in two years", x.sure(0, 1400), 2);
    due.same("the last day of being in the first year", x.sure(0, 1719), 2);
    due.same("both in the second year", x.sure(0, 1759), 1);
    due.same("one more day", x.sure(0, 1760), 1);
    due.same("the last day with one", x.sure(0, 2119), 1);
    due.same("too long ago", x.sure(0, 2120), 0);
    due.same("1359 is one year behind", x.sure(0, 1359), 1);
    x.use(0, 1, 1500);
    due.same("not broken yet", x.sure(0, 1499), 2);
    due.same("broken", x.sure(0, 1500), 0);
    due.same("broken for two years", x.sure(0, 2219), 0);
    x.use(0, 0, 2219);
    x.use(0, 0, 1861);
    due.same("still broken", x.sure(0, 2219), 0);
    due.same("a break that is forgotten", x.sure(0, 2220), 1);
    due.same("both years again", x.sure(0, 2221), 2);
  }

  private static void halfOfThem(Due due) {
    ForestCourts x = new ForestCourts();
    Due.text(x, 0, "use 5;");
    x.person(0, 0);
    x.claim(0, 0, 0, 0);
    x.use(0, 0, 1800);
    x.use(0, 0, 1800);
    x.use(0, 0, 1799);
    x.use(0, 0, 1440);
    due.same("two of five", x.sure(0, 1800), 0);
    x.use(0, 0, 1);
    due.same("three of five", x.sure(0, 1800), 1);
    x.use(0, 0, 1080);
    due.same("four of five", x.sure(0, 1800), 1);
    x.use(0, 0, 720);
    due.same("five of five", x.sure(0, 1800), 2);
    due.same("720 is a year farther than 1", x.sure(0, 1799), 1);
    due.same("a year ahead of day 0", x.sure(0, 1439), 1);
  }

  private static void useOfThatDay(Due due) {
    ForestCourts x = new ForestCourts();
    Due.text(x, 0, "use 1;");
    Due.text(x, 500, "use 60;");
    x.person(0, 0);
    x.claim(0, 0, 0, 0);
    x.use(0, 0, 490);
    due.same("one year", x.sure(0, 499), 2);
    due.same("sixty years", x.sure(0, 500), 0);
    for (int k = 0; k < 59; k++) {
      x.use(0, 0, 22300 - 360 * k);
    }
    due.same("fifty-nine of sixty", x.sure(0, 22300), 1);
    x.claim(0, 0, 0, 0);
    for (int k = 0; k < 60; k++) {
      x.use(1, 0, 22300 - 360 * k);
    }
    due.same("sixty of sixty", x.sure(1, 22300), 2);
    due.same("the day ahead", x.sure(1, 22299), 1);
  }

  private static void plainUse(Due due) {
    ForestCourts x = new ForestCourts();
    x.person(0, 0);
    x.claim(0, 0, 0, 0);
    for (int k = 0; k < 20; k++) {
      due.same("so far " + k, x.sure(0, 8000), k < 10 ? 0 : 1);
      x.use(0, 0, 8000 - 360 * k - 359);
    }
    due.same("twenty years", x.sure(0, 8000), 2);
  }

  private static void near(Due due) {
    ForestCourts x = new ForestCourts();
    Due.square(x, 100, 900);
    Due.text(x, 0, "bar cut;bar hunt;use 1;");
    x.person(0, 0);
    x.person(0, 0);
    x.wait(400);
    x.claim(0, 0, 500, 500);
    x.use(0, 0, 100);
    x.deed(0, 0, 500, 500, 100, 1);
    x.deed(0, 0, 515, 495, 100, 1);
    x.deed(0, 0, 510, 511, 100, 1);
    x.deed(1, 0, 500, 500, 100, 1);
    x.deed(0, 1, 500, 500, 100, 1);
    x.deed(0, 0, 500, 500, 99, 1);
    boolean[] want = {false, false, true, true, true, true};
    check(due, "near, 20 away, 21 away, another one's, another act, ahead of the use", x, want);
    due.same("the word is bar all the same", x.why(0), 0);
  }

  /** A claim whose person, act, x and y are all different. */
  private static void ownNumbers(Due due) {
    ForestCourts x = new ForestCourts();
    Due.square(x, 100, 900);
    Due.text(x, 0, "bar clear;use 1;");
    for (int k = 0; k < 4; k++) {
      x.person(0, 0);
    }
    x.claim(2, 4, 300, 700);
    x.use(0, 0, 0);
    x.deed(2, 4, 300, 700, 0, 1);
    x.deed(2, 4, 700, 300, 0, 1);
    x.deed(2, 4, 300, 300, 0, 1);
    x.deed(2, 4, 700, 700, 0, 1);
    x.deed(3, 4, 300, 700, 0, 1);
    boolean[] want = {false, true, true, true, true};
    check(due, "at the place, elsewhere three times, another one", x, want);
  }

  private static void heirs(Due due) {
    ForestCourts x = new ForestCourts();
    Due.square(x, 100, 900);
    Due.text(x, 0, "bar cut;bar hunt;use 1;");
    for (int k = 0; k < 4; k++) {
      x.person(0, 0);
    }
    x.wait(400);
    x.claim(0, 0, 500, 500);
    x.use(0, 0, 100);
    x.deed(0, 0, 500, 500, 100, 1);
    x.deed(1, 0, 500, 500, 100, 1);
    x.deed(2, 0, 500, 500, 100, 1);
    x.deed(0, 0, 500, 500, 99, 1);
    x.deed(0, 1, 500, 500, 100, 1);
    x.deed(0, 0, 490, 490, 400, 1);
    x.deed(0, 0, 490, 489, 400, 1);
    boolean[][] want = new boolean[4][];
    want[0] = new boolean[] {false, true, true, true, true, false, true};
    x.heir(0, 1);
    x.heir(1, 2);
    check(due, "while 0 lives", x, want[0]);
    x.die(0);
    want[1] = new boolean[] {false, false, true, true, true, false, true};
    check(due, "0 is dead", x, want[1]);
    x.die(1);
    want[2] = new boolean[] {false, true, false, true, true, false, true};
    check(due, "1 is dead, too", x, want[2]);
    x.heir(1, -1);
    want[3] = new boolean[] {false, true, true, true, true, false, true};
    check(due, "there is no heir", x, want[3]);
    x.use(0, 1, 100);
    due.holds("a break", x.barred(0));
    x.warden(3, 1, 0);
    due.same("it may be presented then", x.present(0, 0, 2, 3), 0);
  }

  private static void check(Due due, String when, ForestCourts x, boolean[] want) {
    for (int k = 0; k < want.length; k++) {
      due.same(when + ": barred(" + k + ")", x.barred(k) ? 1 : 0, want[k] ? 1 : 0);
    }
  }
}
