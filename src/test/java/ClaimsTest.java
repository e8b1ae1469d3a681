/** Promises 29 to 31 (claim, use, sure), and what a sure claim does to barred (23). */
public final class ClaimsTest {
  public static void main(String[] args) {
    Due due = new Due();
    numbers(due);
    noClaim(due);
    twentyClaims(due);
    uses(due);
    noUse(due);
    sixtyUses(due);
    sixtyOfEach(due);
    notSure(due);
    lastYears(due);
    breaks(due);
    oneInEach(due);
    halfOfThem(due);
    useOfThatDay(due);
    plainUse(due);
    near(due);
    actAndPlace(due);
    onItsDay(due);
    heirs(due);
    presented(due);
    due.end();
  }

  private static ForestCourts claimed(String text) {
    ForestCourts x = new ForestCourts();
    Due.text(x, 0, text);
    x.person(0, 0);
    x.claim(0, 0, 0, 0);
    return x;
  }

  private static void numbers(Due due) {
    due.about(0, "CLAIMS, numbered from 0 on, 20 at most: of a PERSON, to an ACT, at a place");
    due.about(29, "A CLAIM: its number");
    ForestCourts x = Due.woods("", 0, 0);
    due.same("the least of all", x.claim(0, 0, 0, 0), 0);
    due.same("the greatest of all", x.claim(1, 5, 999, 999), 1);
    due.same("the same again", x.claim(1, 5, 999, 999), 2);
    x.die(0);
    due.same("of a dead one", x.claim(0, 5, 999, 999), 3);
    due.same("claims", x.count(9), 4);
  }

  private static void noClaim(Due due) {
    due.about(29, "IllegalArgumentException: ACT or place.");
    ForestCourts x = Due.woods("", 0, 0);
    due.only("act", 0, 5, n -> x.claim(0, n, 5, 5));
    due.only("x", 0, 999, n -> x.claim(0, 0, n, 5));
    due.only("y", 0, 999, n -> x.claim(0, 0, 5, n));
    due.about(18, "IndexOutOfBoundsException: no such PERSON (so below)");
    due.numbered("person", 2, n -> x.claim(n, 0, 5, 5));
    due.numbered("person, to no act", 2, n -> x.claim(n, 6, 5, 5));
    due.same("no claim", x.count(9), 0);
  }

  private static void twentyClaims(Due due) {
    due.about(29, "-1: there are 20.");
    ForestCourts x = Due.woods("", 0);
    for (int k = 0; k < 20; k++) {
      due.same("claim " + k, x.claim(0, 5, 999, 999), k);
    }
    due.same("a 21st", x.claim(0, 0, 0, 0), -1);
    due.argument("a 21st to no act", () -> x.claim(0, 6, 0, 0));
    due.index("a 21st of nobody", () -> x.claim(1, 0, 0, 0));
    due.same("20 are there", x.count(9), 20);
    due.same("the last of them", x.use(19, 0, 5), 1);
  }

  private static void uses(Due due) {
    due.about(30, "A USE (0) or BREAK (1) of a CLAIM on a DAY: how many there are of all in it");
    ForestCourts x = claimed("use 1;");
    x.claim(0, 1, 5, 5);
    due.same("on the first day", x.use(0, 0, 0), 1);
    due.same("on the last day", x.use(0, 0, 100000), 2);
    due.same("a break", x.use(0, 1, 50000), 3);
    due.same("twice on a day", x.use(0, 1, 50000), 4);
    due.same("of another claim", x.use(1, 1, 0), 1);
    due.same("one more", x.use(0, 0, 7), 5);
    due.same("a use", x.sure(0, 0), 2);
    due.same("a break", x.sure(1, 0), 0);
    due.same("a use of the last day", x.sure(0, 100000), 2);
  }

  private static void noUse(Due due) {
    due.about(30, "IndexOutOfBoundsException: no such CLAIM (so below)");
    ForestCourts x = claimed("use 1;");
    x.claim(0, 1, 5, 5);
    due.numbered("claim", 2, n -> x.use(n, 0, 0));
    due.numbered("claim, and no kind", 2, n -> x.use(n, 2, 0));
    due.numbered("claim, on no day", 2, n -> x.use(n, 0, -1));
    due.about(30, "IllegalArgumentException: another kind, or the DAY.");
    due.only("kind", 0, 1, n -> x.use(0, n, 0));
    due.only("day", 0, 100000, n -> x.use(0, 0, n));
    due.same("the first", x.use(0, 0, 0), 1);
  }

  private static void sixtyUses(Due due) {
    due.about(0, "USES and BREAKS, each of a DAY, 60 of all at most in one CLAIM.");
    due.about(30, "-1: there are 60.");
    ForestCourts x = claimed("use 1;");
    x.claim(0, 1, 5, 5);
    for (int k = 1; k <= 60; k++) {
      due.same("use or break " + k, x.use(0, k % 2, 100000), k);
    }
    due.same("a 61st", x.use(0, 0, 5), -1);
    due.same("a 61st, a break", x.use(0, 1, 5), -1);
    due.argument("a 61st of no kind", () -> x.use(0, 2, 5));
    due.argument("a 61st on no day", () -> x.use(0, 0, -1));
    due.same("it is none", x.sure(0, 5), 0);
    for (int k = 1; k <= 60; k++) {
      due.same("of another claim", x.use(1, 0, 5), k);
    }
    due.same("a 61st of it", x.use(1, 1, 5), -1);
    due.same("it is no break", x.sure(1, 5), 2);
  }

  private static void sixtyOfEach(Due due) {
    due.about(0, "60 of all at most in one CLAIM.");
    ForestCourts x = claimed("use 60;");
    for (int claim = 0; claim < 8; claim++) {
      if (claim > 0) {
        x.claim(0, 0, 0, 0);
      }
      for (int k = 0; k < 60; k++) {
        due.same("use " + k + " of claim " + claim, x.use(claim, 0, 30000 - 360 * k), k + 1);
      }
    }
    for (int claim = 0; claim < 8; claim++) {
      due.same("claim " + claim, x.sure(claim, 30000), 2);
    }
  }

  private static void notSure(Due due) {
    due.about(31, "IllegalArgumentException: the DAY.");
    ForestCourts x = claimed("use 1;");
    due.only("day", 0, 100000, n -> x.sure(0, n));
    due.about(30, "IndexOutOfBoundsException: no such CLAIM (so below)");
    due.numbered("claim", 1, n -> x.sure(n, 0));
    due.numbered("claim, on no day", 1, n -> x.sure(n, -1));
  }

  private static void lastYears(Due due) {
    due.about(0, "On a DAY, by the USE years of that DAY: the YEARS behind it are the last 360 DAYS, it being the last of them, "
        + "the 360 ahead of these, so on.");
    due.about(31, "What a CLAIM is on a DAY, 0 to 2.");
    ForestCourts x = claimed("use 1;");
    x.use(0, 0, 1000);
    int[] days = {0, 999, 1000, 1001, 1359, 1360, 1720, 100000};
    int[] want = {0, 0, 2, 2, 2, 0, 0, 0};
    for (int k = 0; k < days.length; k++) {
      due.same("one year, day " + days[k], x.sure(0, days[k]), want[k]);
    }
    ForestCourts y = claimed("use 2;");
    y.use(0, 0, 1000);
    int[] then = {999, 1000, 1359, 1360, 1719, 1720};
    int[] is = {0, 1, 1, 1, 1, 0};
    for (int k = 0; k < then.length; k++) {
      due.same("two years, day " + then[k], y.sure(0, then[k]), is[k]);
    }
    y.use(0, 0, 1400);
    due.same("both, in two years", y.sure(0, 1400), 2);
    due.same("the last day of being in two years", y.sure(0, 1719), 2);
    due.same("one year alone", y.sure(0, 1720), 1);
    due.same("the last day with one", y.sure(0, 2119), 1);
    due.same("too long ago", y.sure(0, 2120), 0);
    due.same("400 apart, both in the second year", claimedTwice(1000, 1300).sure(0, 1660), 1);
    due.same("360 apart, day by day in two years", claimedTwice(1000, 1360).sure(0, 1360), 2);
    due.same("359 apart, in one year", claimedTwice(1000, 1359).sure(0, 1359), 1);
    due.same("359 apart, then in two", claimedTwice(1000, 1359).sure(0, 1360), 2);
  }

  private static ForestCourts claimedTwice(int first, int second) {
    ForestCourts x = claimed("use 2;");
    x.use(0, 0, first);
    x.use(0, 0, second);
    return x;
  }

  private static void breaks(Due due) {
    due.about(0, "It is NONE (0), if a BREAK is in one of these");
    ForestCourts x = claimed("use 2;");
    for (int day = 1000; day <= 5000; day += 100) {
      x.use(0, 0, day);
    }
    due.same("sure", x.sure(0, 3000), 2);
    x.use(0, 1, 3000);
    int[] days = {2999, 3000, 3359, 3360, 3719, 3720};
    int[] want = {2, 0, 0, 0, 0, 2};
    for (int k = 0; k < days.length; k++) {
      due.same("a break of day 3000, on day " + days[k], x.sure(0, days[k]), want[k]);
    }
    x.use(0, 1, 0);
    due.same("one on the first day", x.sure(0, 719), 0);
    due.same("long ago", x.sure(0, 1800), 2);
    ForestCourts y = claimed("use 4;");
    y.use(0, 1, 500);
    due.same("a break alone", y.sure(0, 500), 0);
    y.use(0, 0, 500);
    y.use(0, 0, 1);
    due.same("a break on a day of a use", y.sure(0, 500), 0);
  }

  private static void oneInEach(Due due) {
    due.about(0, "SURE (2), if a USE is in each");
    for (int use : new int[] {1, 2, 3, 20, 59, 60}) {
      ForestCourts x = claimed("use " + use + ";");
      for (int k = 0; k < use; k++) {
        due.fails(k + " of " + use, x.sure(0, 50000) == 2);
        x.use(0, 0, 50000 - 360 * k - (k % 2 == 0 ? 359 : 0));
      }
      due.same("all of " + use, x.sure(0, 50000), 2);
    }
    ForestCourts x = claimed("use 60;");
    for (int k = 0; k < 60; k++) {
      x.use(0, 0, 22300 - 360 * k);
    }
    due.same("sixty of sixty", x.sure(0, 22300), 2);
    due.same("one of them a day ahead", x.sure(0, 22299), 1);
    due.same("ahead of the first day there is no use", x.sure(0, 21000), 1);
  }

  private static void halfOfThem(Due due) {
    due.about(0, "DOUBTFUL (1), if one is in half of them or more; else NONE.");
    for (int use : new int[] {1, 2, 3, 4, 5, 6, 20, 59, 60}) {
      ForestCourts x = claimed("use " + use + ";");
      for (int k = 0; k < use; k++) {
        due.same(k + " of " + use, x.sure(0, 40000), k * 2 >= use ? 1 : 0);
        x.use(0, 0, 40000 - 360 * (use - 1 - k));
      }
      due.same("all of " + use, x.sure(0, 40000), 2);
    }
    ForestCourts x = claimed("use 5;");
    x.use(0, 0, 1800);
    x.use(0, 0, 1800);
    x.use(0, 0, 1799);
    x.use(0, 0, 1440);
    due.same("two of five, four uses", x.sure(0, 1800), 0);
    x.use(0, 0, 1);
    due.same("three of five", x.sure(0, 1800), 1);
    due.same("years ahead of day 0 count, too", x.sure(0, 1439), 0);
  }

  private static void useOfThatDay(Due due) {
    due.about(0, "by the USE years of that DAY");
    ForestCourts x = claimed("use 1;");
    Due.text(x, 500, "use 60;");
    Due.text(x, 600, "use 2;");
    x.use(0, 0, 490);
    due.same("one year", x.sure(0, 499), 2);
    due.same("sixty years", x.sure(0, 500), 0);
    due.same("two years", x.sure(0, 600), 1);
    Due.text(x, 500, "use 1;");
    due.same("one year, as told later", x.sure(0, 500), 2);
  }

  private static void plainUse(Due due) {
    due.about(0, "without: courts 40 120 1080, use 20, owe.");
    ForestCourts x = claimed("");
    for (int k = 0; k < 20; k++) {
      due.same("so far " + k, x.sure(0, 8000), k < 10 ? 0 : 1);
      x.use(0, 0, 8000 - 360 * k - 359);
    }
    due.same("twenty years", x.sure(0, 8000), 2);
  }

  private static void barred(Due due, String when, ForestCourts x, String want) {
    for (int k = 0; k < want.length(); k++) {
      due.same(when + ": barred(" + k + ")", x.barred(k) ? 1 : 0, want.charAt(k) == '1' ? 1 : 0);
    }
  }

  private static void near(Due due) {
    due.about(0, "A SURE CLAIM is near a place, if its own is not farther than 20 along x and y together");
    ForestCourts x = Due.woods("bar cut;use 1;", 0);
    x.claim(0, 0, 500, 500);
    x.use(0, 0, 0);
    int[][] off = {{0, 0}, {20, 0}, {-20, 0}, {0, 20}, {0, -20}, {10, 10}, {-10, -10}, {-5, 15}, {15, -5},
      {21, 0}, {-21, 0}, {0, 21}, {0, -21}, {10, 11}, {-10, -11}, {-11, 10}, {20, -1}, {14, 15}, {-30, 10}, {30, -40}};
    for (int[] o : off) {
      x.deed(0, 0, 500 + o[0], 500 + o[1], 0, 1);
    }
    barred(due, "nine that are near, eleven that are not", x, "00000000011111111111");
    due.same("the word is bar all the same", x.why(0), 0);
  }

  private static void actAndPlace(Due due) {
    due.about(0, "and the PERSON has no SURE CLAIM on its DAY to that ACT near that place.");
    ForestCourts x = Due.woods("bar clear;bar cut;use 1;", 0, 0, 0, 0);
    x.claim(2, 4, 300, 700);
    x.use(0, 0, 0);
    x.deed(2, 4, 300, 700, 0, 1);
    x.deed(2, 4, 700, 300, 0, 1);
    x.deed(2, 4, 300, 300, 0, 1);
    x.deed(2, 4, 700, 700, 0, 1);
    x.deed(3, 4, 300, 700, 0, 1);
    x.deed(2, 0, 300, 700, 0, 1);
    barred(due, "at the place, elsewhere three times, another one, another act", x, "011111");
    x.claim(3, 0, 300, 700);
    x.claim(3, 4, 300, 700);
    x.use(1, 0, 0);
    barred(due, "claims that are not sure, or to another act", x, "011111");
    x.use(2, 0, 0);
    barred(due, "the third claim", x, "011101");
  }

  private static void onItsDay(Due due) {
    due.about(0, "and the PERSON has no SURE CLAIM on its DAY");
    ForestCourts x = Due.woods("bar cut;use 2;", 0);
    x.wait(2000);
    x.claim(0, 0, 500, 500);
    x.use(0, 0, 900);
    x.use(0, 0, 1300);
    int[] days = {899, 900, 1299, 1300, 1619, 1620, 2000};
    for (int day : days) {
      x.deed(0, 0, 500, 500, day, 1);
    }
    barred(due, "sure from 1,300 to 1,619", x, "1110011");
    x.use(0, 1, 1400);
    x.deed(0, 0, 500, 500, 1399, 1);
    x.deed(0, 0, 500, 500, 1400, 1);
    barred(due, "broken on day 1,400", x, "111011101");
  }

  private static void heirs(Due due) {
    due.about(0, "it is also of whoever is HEIR OF its PERSON now, if that one is DEAD.");
    ForestCourts x = Due.woods("bar cut;bar hunt;use 1;", 0, 0, 0, 0);
    x.wait(400);
    x.claim(0, 0, 500, 500);
    x.use(0, 0, 100);
    x.deed(0, 0, 500, 500, 100, 1);
    x.deed(1, 0, 500, 500, 100, 1);
    x.deed(2, 0, 500, 500, 100, 1);
    x.deed(0, 0, 500, 500, 99, 1);
    x.deed(0, 1, 500, 500, 100, 1);
    x.deed(1, 0, 490, 490, 400, 1);
    x.deed(1, 0, 490, 489, 400, 1);
    x.heir(0, 1);
    x.heir(1, 2);
    barred(due, "while 0 lives", x, "0111111");
    x.die(0);
    barred(due, "0 is dead", x, "0011101");
    x.die(1);
    barred(due, "1 is dead, too", x, "0101111");
    x.heir(1, -1);
    barred(due, "there is no heir", x, "0111111");
    x.heir(1, 0);
    barred(due, "one comes again", x, "0111111");
    x.heir(0, 2);
    barred(due, "another heir now", x, "0101111");
  }

  private static void presented(Due due) {
    due.about(26, "-3 it is not BARRED");
    ForestCourts x = Due.woods("bar cut;use 1;", 0, 0, 0, 0);
    x.claim(0, 0, 500, 500);
    x.use(0, 0, 0);
    x.deed(0, 0, 500, 500, 0, 1);
    x.warden(3, 1, 0);
    due.same("a sure claim", x.present(0, 0, 1, 2), -3);
    x.use(0, 1, 0);
    due.holds("a break", x.barred(0));
    due.same("it may be presented then", x.present(0, 0, 1, 2), 0);
  }
}
