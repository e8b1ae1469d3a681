/** Promises 32 to 34 (enter, quarrel, joined). */
public final class RollsTest {
  public static void main(String[] args) {
    Due due = new Due();
    arguments(due);
    orders(due);
    ties(due);
    sums(due);
    manyListed(due);
    due.end();
  }

  private static ForestCourts woods(int presentments) {
    ForestCourts x = new ForestCourts();
    Due.square(x, 100, 900);
    Due.text(x, 0, "bar cut;");
    for (int k = 0; k < 4; k++) {
      x.person(0, 0);
    }
    x.warden(3, 1, 0);
    for (int k = 0; k < presentments; k++) {
      x.present(x.deed(0, 0, 500, 500, 0, 1), 0, 1, 2);
    }
    return x;
  }

  private static void enter(ForestCourts x, int hand, int... presentments) {
    for (int p : presentments) {
      x.enter(hand, p, 10 * hand + p);
    }
  }

  private static void joined(Due due, String call, ForestCourts x, int... want) {
    for (int k = 0; k < want.length; k++) {
      due.same(call + ": joined(" + k + ", 0)", x.joined(k, 0), want[k]);
    }
    due.same(call + ": no more", x.joined(want.length, 0), -1);
    due.same(call + ": no sum more", x.joined(want.length, 1), -1);
    due.same(call + ": joined(-1, 0)", x.joined(-1, 0), -1);
  }

  private static void arguments(Due due) {
    ForestCourts x = woods(10);
    due.index("hand 4", () -> x.enter(4, 0, 0));
    due.index("hand -1", () -> x.enter(-1, 0, 0));
    due.index("presentment 10", () -> x.enter(0, 10, 0));
    due.index("presentment -1", () -> x.enter(0, -1, 0));
    due.index("presentment 10 and no sum", () -> x.enter(0, 10, -1));
    due.argument("sum -1", () -> x.enter(0, 0, -1));
    due.argument("sum 100001", () -> x.enter(0, 0, 100001));
    due.same("nothing is joined", x.quarrel(), 0);
    due.same("an entry", x.enter(0, 0, 100000), 1);
    due.same("once in a roll", x.enter(0, 0, 0), -2);
    due.same("in another roll", x.enter(3, 0, 0), 1);
    for (int k = 1; k < 8; k++) {
      due.same("entry " + k, x.enter(0, k, 0), k + 1);
    }
    due.same("a ninth", x.enter(0, 8, 0), -1);
    due.same("a ninth that is in it", x.enter(0, 7, 0), -1);
    due.argument("a ninth of no sum", () -> x.enter(0, 8, -1));
    due.argument("what 2", () -> x.joined(0, 2));
    due.argument("what -1", () -> x.joined(0, -1));
    due.argument("what 2 of none", () -> x.joined(99, 2));
  }

  private static void orders(Due due) {
    ForestCourts x = woods(5);
    joined(due, "none", x);
    enter(x, 0, 4, 2, 0);
    due.same("one hand has no quarrel", x.quarrel(), 0);
    joined(due, "one hand", x, 4, 2, 0);
    enter(x, 1, 0, 2, 4);
    due.same("two hands have 3", x.quarrel(), 3);
    joined(due, "by numbers", x, 0, 2, 4);
    enter(x, 2, 2, 4);
    due.same("4 ahead of 2 has 2, 2 ahead of 4 has 1", x.quarrel(), 3);
    joined(due, "by numbers still", x, 0, 2, 4);
    enter(x, 3, 4, 0);
    due.same("now 0, 2, 4 has 4, and 2, 4, 0 has 3", x.quarrel(), 3);
    joined(due, "the least quarrel", x, 2, 4, 0);
  }

  private static void ties(Due due) {
    // each of three ahead of the next by two hands: a round with a quarrel whatever is done
    ForestCourts x = woods(9);
    enter(x, 0, 8, 3, 5);
    enter(x, 1, 3, 5, 8);
    enter(x, 2, 5, 8, 3);
    due.same("a round", x.quarrel(), 4);
    joined(due, "the first of three", x, 3, 5, 8);
    enter(x, 3, 1);
    due.same("one that has no quarrel", x.quarrel(), 4);
    joined(due, "it comes first by its number", x, 1, 3, 5, 8);
    enter(x, 3, 7);
    joined(due, "behind 1, as the hand says, and ahead of all others that is not by number", x, 1, 3, 5, 7, 8);
  }

  private static void sums(Due due) {
    ForestCourts x = woods(4);
    x.enter(0, 0, 30);
    due.same("one hand", x.joined(0, 1), 30);
    x.enter(1, 0, 10);
    due.same("of two the least", x.joined(0, 1), 10);
    x.enter(2, 0, 100);
    due.same("of three the one between", x.joined(0, 1), 30);
    x.enter(3, 0, 90);
    due.same("of 10, 30, 90, 100 the lesser of those between", x.joined(0, 1), 30);
    x.enter(0, 1, 7);
    x.enter(1, 1, 7);
    x.enter(2, 1, 0);
    due.same("of 0, 7, 7", x.joined(1, 1), 7);
    x.enter(0, 2, 100000);
    x.enter(1, 2, 0);
    due.same("of 0 and 100000", x.joined(2, 1), 0);
    due.same("its presentment", x.joined(2, 0), 2);
  }

  private static void manyListed(Due due) {
    ForestCourts x = woods(40);
    enter(x, 0, 39, 38, 37, 36);
    enter(x, 1, 35, 34, 33, 32);
    enter(x, 2, 32, 39);
    enter(x, 3, 32, 36);
    due.same("eight are listed", x.quarrel(), 0);
    joined(due, "eight", x, 35, 34, 33, 32, 39, 38, 37, 36);
    x.enter(3, 0, 5);
    due.same("nine are listed", x.quarrel(), -1);
    joined(due, "nine", x);
    due.argument("what 2", () -> x.joined(0, 2));
    // eight in each of four hands, two of them backwards
    ForestCourts y = woods(8);
    enter(y, 0, 0, 1, 2, 3, 4, 5, 6, 7);
    enter(y, 1, 7, 6, 5, 4, 3, 2, 1, 0);
    enter(y, 2, 0, 1, 2, 3, 4, 5, 6, 7);
    enter(y, 3, 7, 6, 5, 4, 3, 2, 1, 0);
    due.same("two against two", y.quarrel(), 56);
    joined(due, "the first of all orders", y, 0, 1, 2, 3, 4, 5, 6, 7);
  }
}
