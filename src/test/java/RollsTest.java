/** Promises 32 to 34 (enter, quarrel, joined). */
public final class RollsTest {
  public static void main(String[] args) {
    Due due = new Due();
    entries(due);
    noEntry(due);
    eightEntries(due);
    noneTwice(due);
    nothingAtAll(due);
    leastQuarrel(due);
    theFirstOrder(due);
    eightListed(due);
    moreThanEight(due);
    sums(due);
    leastOfThese(due);
    behindTheLast(due);
    otherWhat(due);
    due.end();
  }

  private static ForestCourts woods(int presentments) {
    ForestCourts x = Due.woods("bar cut;", 0, 0, 0, 0);
    x.warden(3, 1, 0);
    for (int k = 0; k < presentments; k++) {
      Due.present(x, 0, 1);
    }
    return x;
  }

  private static void enter(ForestCourts x, int hand, int... presentments) {
    for (int p : presentments) {
      x.enter(hand, p, 10 * hand + p);
    }
  }

  private static void joined(Due due, String call, ForestCourts x, int quarrel, int... want) {
    due.same(call + ": quarrel()", x.quarrel(), quarrel);
    for (int k = 0; k < want.length; k++) {
      due.same(call + ": joined(" + k + ", 0)", x.joined(k, 0), want[k]);
    }
    due.same(call + ": no more", x.joined(want.length, 0), -1);
    due.same(call + ": no sum more", x.joined(want.length, 1), -1);
  }

  private static void entries(Due due) {
    due.about(0, "ROLLS of four HANDS (0 to 3): each is a row of ENTRIES, 8 at most: a PRESENTMENT and a sum (0 to 100,000); "
        + "none twice in a ROLL.");
    due.about(32, "An ENTRY of a HAND's ROLL: how many it has");
    ForestCourts x = woods(3);
    due.same("the least sum", x.enter(0, 0, 0), 1);
    due.same("the greatest sum", x.enter(0, 1, 100000), 2);
    due.same("in another roll", x.enter(3, 1, 5), 1);
    due.same("the last presentment", x.enter(0, 2, 5), 3);
    for (int hand = 1; hand < 3; hand++) {
      due.same("in roll " + hand, x.enter(hand, 0, 5), 1);
    }
    due.same("its sum", x.joined(0, 1), 5);
  }

  private static void noEntry(Due due) {
    due.about(32, "IndexOutOfBoundsException: no such HAND, PRESENTMENT");
    ForestCourts x = woods(3);
    due.numbered("hand", 4, n -> x.enter(n, 0, 0));
    due.numbered("presentment", 3, n -> x.enter(0, n, 0));
    due.numbered("hand, and no sum", 4, n -> x.enter(n, 0, -1));
    due.numbered("presentment, and no sum", 3, n -> x.enter(0, n, -1));
    due.about(32, "IllegalArgumentException: the sum.");
    due.only("sum", 0, 100000, n -> x.enter(0, 0, n));
    joined(due, "nothing came of them", x, 0);
    due.same("the first", x.enter(0, 0, 0), 1);
  }

  private static void eightEntries(Due due) {
    due.about(32, "-1: there are 8");
    ForestCourts x = woods(10);
    for (int k = 0; k < 8; k++) {
      due.same("entry " + k, x.enter(2, k, k), k + 1);
    }
    due.same("a ninth", x.enter(2, 8, 0), -1);
    due.same("a ninth that is in it", x.enter(2, 7, 0), -1);
    due.argument("a ninth of no sum", () -> x.enter(2, 8, -1));
    due.index("a ninth of no presentment", () -> x.enter(2, 10, 0));
    joined(due, "eight", x, 0, 0, 1, 2, 3, 4, 5, 6, 7);
    due.same("in another roll", x.enter(1, 0, 0), 1);
  }

  private static void noneTwice(Due due) {
    due.about(32, "-2: it has that PRESENTMENT.");
    ForestCourts x = woods(4);
    due.same("the first", x.enter(1, 3, 7), 1);
    due.same("again", x.enter(1, 3, 7), -2);
    due.same("again, with another sum", x.enter(1, 3, 8), -2);
    due.same("the second", x.enter(1, 0, 7), 2);
    due.same("the first again", x.enter(1, 3, 8), -2);
    due.same("the third", x.enter(1, 2, 7), 3);
    due.same("the second again", x.enter(1, 0, 7), -2);
    due.argument("again, with no sum", () -> x.enter(1, 3, 100001));
    joined(due, "three", x, 0, 3, 0, 2);
    due.same("the sum that was told first", x.joined(0, 1), 7);
    due.same("in another roll", x.enter(0, 3, 8), 1);
  }

  private static void nothingAtAll(Due due) {
    due.about(33, "QUARREL of what is JOINED (0 of none at all)");
    due.about(34, "NONE without.");
    joined(due, "no presentments", new ForestCourts(), 0);
    joined(due, "no entries", woods(3), 0);
    ForestCourts x = woods(3);
    x.enter(1, 2, 9);
    joined(due, "one", x, 0, 2);
    due.same("its sum", x.joined(0, 1), 9);
  }

  private static void leastQuarrel(Due due) {
    due.about(0, "JOINED: of all orders of those LISTED the one with the least QUARREL: for each HAND each two ENTRIES of it that stand "
        + "in the other order");
    due.about(34, "Of the k-th of what is JOINED: 0 the PRESENTMENT, 1 its SUM");
    ForestCourts x = woods(5);
    enter(x, 0, 4, 2, 0);
    joined(due, "one hand", x, 0, 4, 2, 0);
    enter(x, 1, 0, 2, 4);
    joined(due, "two hands, one against the other", x, 3, 0, 2, 4);
    enter(x, 2, 2, 4);
    joined(due, "4 ahead of 2 has 2, 2 ahead of 4 has 1", x, 3, 0, 2, 4);
    enter(x, 3, 4, 0);
    joined(due, "now 0, 2, 4 has 4, and 2, 4, 0 has 3", x, 3, 2, 4, 0);
    due.same("the sum of 2, told 2, 12, 22", x.joined(0, 1), 12);
    due.same("the sum of 4, told 4, 14, 24, 34", x.joined(1, 1), 14);
    due.same("the sum of 0, told 0, 10, 30", x.joined(2, 1), 10);
    ForestCourts y = woods(4);
    enter(y, 0, 3, 2, 1, 0);
    enter(y, 1, 3, 2, 1, 0);
    enter(y, 2, 0, 1, 2, 3);
    joined(due, "two against one", y, 6, 3, 2, 1, 0);
    ForestCourts z = woods(4);
    enter(z, 0, 3, 0);
    enter(z, 1, 3, 1);
    enter(z, 2, 2, 3);
    joined(due, "what no hand tells together stands by number", z, 0, 2, 3, 0, 1);
  }

  private static void theFirstOrder(Due due) {
    due.about(0, "of these the first, by numbers of PRESENTMENTS.");
    // each of three ahead of the next by two hands: a round with a quarrel whatever is done
    ForestCourts x = woods(9);
    enter(x, 0, 8, 3, 5);
    enter(x, 1, 3, 5, 8);
    enter(x, 2, 5, 8, 3);
    joined(due, "the first of three", x, 4, 3, 5, 8);
    enter(x, 3, 1);
    joined(due, "one that has no quarrel comes first by its number", x, 4, 1, 3, 5, 8);
    enter(x, 3, 7);
    joined(due, "behind 1, as the hand says, and ahead of 8 by its number", x, 4, 1, 3, 5, 7, 8);
    ForestCourts y = woods(3);
    enter(y, 0, 2, 1);
    enter(y, 1, 1, 2);
    joined(due, "one against one", y, 1, 1, 2);
    enter(y, 2, 0);
    joined(due, "the least number first", y, 1, 0, 1, 2);
  }

  private static void eightListed(Due due) {
    due.about(0, "LISTED are those that are in some ROLL; if they are more than 8, nothing is JOINED.");
    ForestCourts x = woods(40);
    enter(x, 0, 39, 38, 37, 36);
    enter(x, 1, 35, 34, 33, 32);
    enter(x, 2, 32, 39);
    enter(x, 3, 32, 36);
    joined(due, "eight of forty", x, 0, 35, 34, 33, 32, 39, 38, 37, 36);
    ForestCourts y = woods(8);
    for (int hand = 0; hand < 4; hand++) {
      enter(y, hand, hand % 2 == 0 ? new int[] {0, 1, 2, 3, 4, 5, 6, 7} : new int[] {7, 6, 5, 4, 3, 2, 1, 0});
    }
    joined(due, "two against two", y, 56, 0, 1, 2, 3, 4, 5, 6, 7);
    ForestCourts z = woods(8);
    for (int hand = 0; hand < 3; hand++) {
      enter(z, hand, hand == 0 ? new int[] {0, 1, 2, 3, 4, 5, 6, 7} : new int[] {7, 6, 5, 4, 3, 2, 1, 0});
    }
    joined(due, "one against two", z, 28, 7, 6, 5, 4, 3, 2, 1, 0);
  }

  private static void moreThanEight(Due due) {
    due.about(33, "NONE: more than 8 are LISTED.");
    ForestCourts x = woods(10);
    enter(x, 0, 0, 1, 2, 3, 4, 5, 6, 7);
    enter(x, 1, 7, 6);
    joined(due, "eight", x, 1, 0, 1, 2, 3, 4, 5, 6, 7);
    x.enter(1, 8, 5);
    joined(due, "nine", x, -1);
    due.about(0, "if they are more than 8, nothing is JOINED.");
    for (int k = 0; k < 9; k++) {
      due.same("joined(" + k + ", 0)", x.joined(k, 0), -1);
      due.same("joined(" + k + ", 1)", x.joined(k, 1), -1);
    }
    x.enter(1, 9, 5);
    x.enter(1, 0, 5);
    joined(due, "ten", x, -1);
  }

  private static void sums(Due due) {
    due.about(0, "Its SUM for each: of those that HANDS tell the one from which all that they tell are least apart together");
    int[][] told = {{7}, {30, 10, 100}, {100, 30, 10}, {0, 100000, 100000}, {1, 1, 9, 9}, {5, 5, 5, 100000}, {10, 20, 30, 90}, {7, 7, 0}};
    int[] want = {7, 30, 30, 100000, 1, 5, 20, 7};
    for (int k = 0; k < told.length; k++) {
      for (int first = 0; first < told[k].length; first++) {
        ForestCourts x = woods(2);
        x.enter(0, 1, 55);
        for (int j = 0; j < told[k].length; j++) {
          x.enter((j + first) % 4, 0, told[k][j]);
        }
        due.same("sum " + k + " from hand " + first, x.joined(x.joined(0, 0) == 0 ? 0 : 1, 1), want[k]);
        due.same("of the other", x.joined(x.joined(0, 0) == 1 ? 0 : 1, 1), 55);
      }
    }
  }

  private static void leastOfThese(Due due) {
    due.about(0, "of these the least.");
    int[][] told = {{30, 10}, {10, 30}, {0, 100000}, {100000, 0}, {10, 30, 90, 100}, {100, 90, 30, 10}, {9, 1, 9, 1}, {4, 4, 3, 3}};
    int[] want = {10, 10, 0, 0, 30, 30, 1, 3};
    for (int k = 0; k < told.length; k++) {
      ForestCourts x = woods(1);
      for (int j = 0; j < told[k].length; j++) {
        x.enter(j, 0, told[k][j]);
      }
      due.same("sum " + k, x.joined(0, 1), want[k]);
    }
  }

  private static void behindTheLast(Due due) {
    due.about(34, "NONE without.");
    ForestCourts x = woods(3);
    enter(x, 0, 2, 1, 0);
    for (int k : new int[] {-1, 3, 4, 7, 8, 9, Integer.MIN_VALUE, Integer.MAX_VALUE}) {
      due.same("joined(" + k + ", 0)", x.joined(k, 0), -1);
      due.same("joined(" + k + ", 1)", x.joined(k, 1), -1);
    }
    due.same("the first", x.joined(0, 0), 2);
    due.same("the last", x.joined(2, 0), 0);
  }

  private static void otherWhat(Due due) {
    due.about(34, "IllegalArgumentException: another what.");
    ForestCourts x = woods(10);
    due.only("what of none", 0, 1, n -> x.joined(0, n));
    enter(x, 0, 2, 1, 0);
    due.only("what", 0, 1, n -> x.joined(0, n));
    due.only("what of none such", 0, 1, n -> x.joined(99, n));
    enter(x, 1, 3, 4, 5, 6, 7, 8, 9);
    due.only("what of too many", 0, 1, n -> x.joined(0, n));
  }
}
