/** Promises 10 to 12 (walk, walked, rivals). */
public final class WalkTest {
  public static void main(String[] args) {
    Due due = new Due();
    shortest(due);
    alongXAndY(due);
    inThatOrder(due);
    theFirst(due);
    sixNames(due);
    noneSimple(due);
    notThreeToSix(due);
    restOfTheTape(due);
    noBytes(due);
    walkedBefore(due);
    noMarkWalked(due);
    rivals(due);
    due.end();
  }

  private static void row(Due due, String call, ForestCourts x, int... want) {
    for (int k = 0; k < want.length; k++) {
      due.same(call + ": walked(" + k + ")", x.walked(k), want[k]);
    }
    due.same(call + ": walked(" + want.length + ")", x.walked(want.length), -1);
  }

  private static void shortest(Due due) {
    due.about(0, "WALKED from a row of 3 to 6 NAMES: of all RINGS that are SIMPLE, with a MARK of each NAME in that order, "
        + "the one whose SIDES are shortest together");
    due.about(10, "The first n bytes of the TAPE (empty then) are NAMES that are WALKED: how long the SIDES are together");
    ForestCourts x = new ForestCourts();
    x.mark(5, 0, 0);
    x.mark(6, 100, 0);
    x.mark(7, 0, 100);
    x.mark(7, 0, 50);
    x.mark(7, 50, 0);
    due.same("the shortest", Due.walk(x, 5, 6, 7), 300);
    row(due, "mark 4 would be shorter, but is on a side", x, 0, 1, 3);
    due.same("one rival", x.rivals(), 1);
    due.same("the tape is empty", x.count(13), 0);
    due.same("no ring is made", x.count(2), 0);
    due.same("names may come again, marks not", Due.walk(x, 7, 7, 5), 200);
    due.same("rivals", x.rivals(), 3);
    x.mark(7, 60, 60);
    due.same("what was walked stays", x.walked(0), 3);
  }

  private static void alongXAndY(Due due) {
    due.about(0, "each as far as its x and its y go");
    ForestCourts x = new ForestCourts();
    x.mark(1, 0, 0);
    x.mark(2, 999, 0);
    // by the straight way the second is nearer: 2 times 850 against 999 and 1413; along x and y it is farther
    x.mark(3, 0, 900);
    x.mark(3, 500, 950);
    due.same("the way along x and y", Due.walk(x, 1, 2, 3), 2 * 999 + 2 * 900);
    row(due, "the third mark", x, 0, 1, 2);
    ForestCourts y = new ForestCourts();
    y.mark(0, 3, 1);
    y.mark(1, 10, 5);
    y.mark(2, 4, 30);
    due.same("down and to the left, too", Due.walk(y, 0, 1, 2), 7 + 4 + 6 + 25 + 1 + 29);
    due.same("backwards", Due.walk(y, 2, 1, 0), 7 + 4 + 6 + 25 + 1 + 29);
  }

  private static void inThatOrder(Due due) {
    due.about(0, "with a MARK of each NAME in that order");
    ForestCourts x = new ForestCourts();
    x.mark(3, 0, 0);
    x.mark(2, 100, 0);
    x.mark(1, 100, 100);
    x.mark(0, 0, 100);
    due.same("in order", Due.walk(x, 0, 1, 2, 3), 400);
    row(due, "in order", x, 3, 2, 1, 0);
    due.same("beginning elsewhere", Due.walk(x, 2, 3, 0, 1), 400);
    row(due, "beginning elsewhere", x, 1, 0, 3, 2);
    due.same("sides that cross", Due.walk(x, 0, 2, 1, 3), -1);
    due.same("some of them", Due.walk(x, 0, 2, 3), 400);
    row(due, "some of them", x, 3, 1, 0);
  }

  private static void theFirst(Due due) {
    due.about(0, "of these the first, MARK by MARK by numbers.");
    ForestCourts x = new ForestCourts();
    x.mark(0, 100, 100);
    x.mark(2, 100, 300);
    x.mark(1, 300, 200);
    x.mark(1, 300, 100);
    x.mark(2, 100, 300);
    x.mark(0, 100, 100);
    due.same("the length", Due.walk(x, 0, 1, 2), 800);
    row(due, "the first of eight", x, 0, 2, 1);
    due.same("rivals", x.rivals(), 7);
    due.same("the other way", Due.walk(x, 2, 1, 0), 800);
    row(due, "the first of eight", x, 1, 2, 0);
  }

  private static void sixNames(Due due) {
    due.about(0, "WALKED from a row of 3 to 6 NAMES");
    ForestCourts x = new ForestCourts();
    int[] xs = {0, 100, 200, 200, 100, 0};
    int[] ys = {0, 10, 0, 100, 90, 100};
    for (int copy = 0; copy < 4; copy++) {
      for (int k = 0; k < 6; k++) {
        x.mark(k, xs[k] + copy, ys[k] + copy);
      }
    }
    due.same("six names of four marks each", Due.walk(x, 0, 1, 2, 3, 4, 5), 628);
    row(due, "six names", x, 18, 1, 2, 3, 22, 5);
    due.same("all are simple", x.rivals(), 4095);
    due.same("five names", Due.walk(x, 0, 1, 2, 3, 5), 614);
    due.same("all are simple", x.rivals(), 1023);
    due.same("three names", Due.walk(x, 0, 2, 3), 594);
    due.same("all are simple", x.rivals(), 63);
  }

  /** Four marks: three of them on a slanted line, of names 0 to 2. */
  private static ForestCourts fourMarks() {
    ForestCourts x = new ForestCourts();
    x.mark(0, 0, 0);
    x.mark(1, 10, 10);
    x.mark(2, 20, 20);
    x.mark(19, 0, 20);
    return x;
  }

  private static void noneSimple(Due due) {
    due.about(10, "-1: there is none SIMPLE");
    ForestCourts x = fourMarks();
    due.same("on a line", Due.walk(x, 0, 1, 2), -1);
    due.same("no such name", Due.walk(x, 0, 2, 9), -1);
    due.same("no name at all", Due.walk(x, 0, 2, 20), -1);
    due.same("no name at all, of a great byte", Due.walk(x, 255, 2, 0), -1);
    due.same("one mark twice", Due.walk(x, 0, 2, 2), -1);
    due.same("no marks", Due.walk(new ForestCourts(), 0, 0, 0), -1);
    due.same("one is there", Due.walk(x, 0, 2, 19), 80);
    due.same("its greatest name", x.walked(2), 3);
  }

  private static void notThreeToSix(Due due) {
    due.about(10, "-2: they are not 3 to 6.");
    ForestCourts x = fourMarks();
    due.same("none", x.walk(0), -2);
    due.same("one", Due.walk(x, 0), -2);
    due.same("two", Due.walk(x, 0, 2), -2);
    due.same("two that are none", Due.walk(x, 99, 99), -2);
    due.same("three", Due.walk(x, 0, 2, 19), 80);
    due.same("six", Due.walk(x, 0, 2, 19, 0, 2, 19), -1);
    due.same("seven", Due.walk(x, 0, 2, 19, 0, 2, 19, 0), -2);
    due.same("all of a full tape", Due.walk(x, new int[400]), -2);
  }

  private static void restOfTheTape(Due due) {
    due.about(10, "The first n bytes of the TAPE (empty then)");
    ForestCourts x = fourMarks();
    x.feed(0x000213ff, -1, -1, -1, -1);
    due.same("three of twenty", x.walk(3), 80);
    due.same("none is left", x.count(13), 0);
    x.feed(0x000213ff, -1, -1, -1, -1);
    due.same("two of twenty", x.walk(2), -2);
    due.same("none is left", x.count(13), 0);
    Due.walk(x, 0, 1, 2);
    due.same("none is left when none is simple", x.count(13), 0);
  }

  private static void noBytes(Due due) {
    due.about(10, "IllegalArgumentException: n.");
    ForestCourts x = fourMarks();
    due.only("n of an empty tape", 0, 0, x::walk);
    due.same("one is there", Due.walk(x, 0, 2, 19), 80);
    x.feed(0, 0, 0, 0, 0);
    due.only("n of a tape of 20", 0, 20, x::walk);
    due.same("the tape is as it was", x.count(13), 20);
    row(due, "what was walked stays", x, 0, 2, 3);
    due.same("its rivals, too", x.rivals(), 0);
  }

  private static void walkedBefore(Due due) {
    due.about(11, "The k-th MARK of what was WALKED last");
    ForestCourts x = fourMarks();
    Due.walk(x, 0, 2, 19);
    row(due, "the first walk", x, 0, 2, 3);
    Due.walk(x, 19, 1, 2);
    row(due, "the second walk", x, 3, 1, 2);
    Due.ring(x, 0, 0, 2, 3);
    row(due, "a ring is no walk", x, 3, 1, 2);
    for (int k : new int[] {-1, 3, 4, 5, 6, 7, 100, Integer.MIN_VALUE, Integer.MAX_VALUE}) {
      due.same("walked(" + k + ")", x.walked(k), -1);
    }
  }

  private static void noMarkWalked(Due due) {
    due.about(11, "NONE (so if that found none, or was -2).");
    due.about(12, "NONE likewise.");
    ForestCourts x = fourMarks();
    row(due, "nothing was walked", x);
    due.same("rivals of nothing", x.rivals(), -1);
    Due.walk(x, 0, 2, 19);
    Due.walk(x, 0, 1, 2);
    row(due, "none was found", x);
    due.same("rivals of none", x.rivals(), -1);
    Due.walk(x, 0, 2, 19);
    Due.walk(x, 0, 2);
    row(due, "-2 behind a good one", x);
    due.same("rivals of -2", x.rivals(), -1);
    Due.walk(x, 0, 2, 19);
    Due.walk(x, 0, 2, 19, 0, 2, 19, 0);
    row(due, "-2 of seven", x);
    due.same("rivals of seven", x.rivals(), -1);
  }

  private static void rivals(Due due) {
    due.about(0, "RIVALS: how many SIMPLE ones there are, less one.");
    due.about(12, "RIVALS of what was WALKED last");
    ForestCourts x = fourMarks();
    Due.walk(x, 0, 2, 19);
    due.same("no rival", x.rivals(), 0);
    x.mark(19, 20, 0);
    due.same("of what was walked, not of what could be", x.rivals(), 0);
    Due.walk(x, 0, 2, 19);
    due.same("one rival", x.rivals(), 1);
    x.mark(19, 30, 30);
    Due.walk(x, 0, 2, 19);
    due.same("one on a line is none", x.rivals(), 1);
    Due.walk(x, 19, 19, 0);
    due.same("any two of three, in either order", x.rivals(), 5);
  }
}
