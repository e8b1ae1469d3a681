/** Promises 3 (mark) and 5 (ring). */
public final class BoundsTest {
  public static void main(String[] args) {
    Due due = new Due();
    markNumbers(due);
    fourOfOneName(due);
    noMark(due);
    fortyMarks(due);
    ringNumbers(due);
    restOfTheTape(due);
    noRing(due);
    twelveRings(due);
    tooFewOrMany(due);
    oneIsNoMark(due);
    notSimple(due);
    atOnePlace(due);
    sidesThatMeet(due);
    sidesThatMissOneAnother(due);
    sidesNextToOneAnother(due);
    due.end();
  }

  private static void markNumbers(Due due) {
    due.about(0, "MARKS, numbered from 0 on, 40 at most: a NAME (0 to 19; up to 4 may have one), a place: x and y, 0 to 999.");
    due.about(3, "A MARK: its number");
    ForestCourts x = new ForestCourts();
    due.same("the least name and place", x.mark(0, 0, 0), 0);
    due.same("the greatest name and place", x.mark(19, 999, 999), 1);
    due.same("at a place where one is", x.mark(5, 999, 999), 2);
    due.same("x alone", x.mark(5, 999, 0), 3);
    due.same("y alone", x.mark(5, 0, 999), 4);
    due.same("marks", x.count(1), 5);
  }

  private static void fourOfOneName(Due due) {
    due.about(3, "-1: 4 have that NAME.");
    for (int name : new int[] {0, 7, 19}) {
      ForestCourts x = new ForestCourts();
      x.mark(8, 1, 1);
      for (int k = 0; k < 4; k++) {
        due.same("mark " + k + " of name " + name, x.mark(name, k / 2, 0), 1 + k);
      }
      due.same("a fifth", x.mark(name, 0, 0), -1);
      due.same("a fifth elsewhere", x.mark(name, 500, 500), -1);
      due.same("it is none", x.count(1), 5);
      due.same("another name", x.mark(8, 0, 0), 5);
      due.same("still a fifth", x.mark(name, 9, 9), -1);
    }
    ForestCourts x = new ForestCourts();
    for (int k = 0; k < 4; k++) {
      due.same("from the first mark on, mark " + k, x.mark(7, k, 0), k);
    }
    due.same("a fifth", x.mark(7, 0, 0), -1);
    due.same("another name", x.mark(8, 0, 0), 4);
    due.same("still a fifth", x.mark(7, 0, 0), -1);
  }

  private static void noMark(Due due) {
    due.about(3, "IllegalArgumentException: NAME or place");
    ForestCourts x = new ForestCourts();
    due.only("name", 0, 19, n -> x.mark(n, 5, 5));
    due.only("x", 0, 999, n -> x.mark(5, n, 5));
    due.only("y", 0, 999, n -> x.mark(5, 5, n));
    due.same("none of them is a mark", x.count(1), 0);
    for (int k = 0; k < 4; k++) {
      x.mark(5, 5, 5);
    }
    due.argument("no place, of a name that 4 have", () -> x.mark(5, 5, 1000));
  }

  private static void fortyMarks(Due due) {
    due.about(3, "IllegalStateException: there are 40.");
    ForestCourts x = new ForestCourts();
    for (int k = 0; k < 40; k++) {
      due.same("mark " + k, x.mark(k / 4, k, k), k);
    }
    due.state("a 41st", () -> x.mark(19, 5, 5));
    due.argument("a 41st of no name", () -> x.mark(20, 5, 5));
    due.argument("a 41st at no place", () -> x.mark(19, -1, 5));
    due.same("40 are there", x.count(1), 40);
    due.same("the last of them is a mark of a ring", Due.ring(x, 0, 39, 0, 20), -4);
    due.same("the one behind it is none", Due.ring(x, 0, 40, 0, 20), -3);
  }

  /** Eleven marks in a round, each of a name of its own: any of them, in this order, are a simple ring. */
  private static ForestCourts eleven() {
    ForestCourts x = new ForestCourts();
    for (int k = 0; k < 11; k++) {
      x.mark(k, k * k, 10 * k);
    }
    return x;
  }

  private static void ringNumbers(Due due) {
    due.about(0, "A RING is a row of 3 to 10 MARKS, back from the last to the first: its SIDES are straight from one to the next.");
    due.about(0, "RINGS, numbered from 0 on, 12 at most, SIMPLE, each from a DAY on, till it is UNDONE from a DAY on (at first: never).");
    due.about(5, "The first n bytes of the TAPE (empty then; 0 to 255 each) are MARKS of a RING from a DAY on: its number");
    ForestCourts x = eleven();
    due.same("three marks, from the first day on", Due.ring(x, 0, 0, 1, 2), 0);
    due.same("ten marks, from the last day on", Due.ring(x, 100000, 0, 1, 2, 3, 4, 5, 6, 7, 8, 9), 1);
    due.same("the last mark that is there", Due.ring(x, 5, 10, 0, 1), 2);
    due.same("rings", x.count(2), 3);
    due.same("in", x.where(0, 1, 9), 1);
    due.same("on the side back from the last to the first", x.where(0, 2, 10), 2);
    due.same("not between the first and another than the last", x.where(0, 4, 19), 0);
  }

  private static void restOfTheTape(Due due) {
    due.about(5, "The first n bytes of the TAPE (empty then; 0 to 255 each)");
    ForestCourts x = eleven();
    x.feed(0x000102ff, -1, -1, -1, -1);
    x.feed(-1, -1, -1, -1, -1);
    due.same("three of forty", x.ring(0, 3), 0);
    due.same("none is left", x.count(13), 0);
    due.argument("one more", () -> x.ring(0, 1));
    x.feed(0, 0, 0, 0, 0);
    due.same("refused", x.ring(0, 2), -2);
    due.same("none is left", x.count(13), 0);
    Due.ring(x, 0, 0, 1, 99);
    due.same("none is left of what has no mark", x.count(13), 0);
    Due.ring(x, 0, 0, 1, 1);
    due.same("none is left of what is not simple", x.count(13), 0);
  }

  private static void noRing(Due due) {
    due.about(5, "IllegalArgumentException: the DAY is not 0 to 100,000 (so below)");
    ForestCourts x = eleven();
    x.feed(0x00010203, 0, 0, 0, 0);
    due.only("day", 0, 100000, n -> x.ring(n, 4));
    due.about(5, "or n is not 0 to the TAPE's bytes (so below).");
    due.only("n", 0, 20, n -> x.ring(0, n));
    due.same("the tape is as it was", x.count(13), 20);
    due.same("no ring", x.count(2), 0);
    due.same("and good still", x.ring(0, 4), 0);
    due.only("n of an empty tape", 0, 0, n -> x.ring(0, n));
    due.same("none of an empty tape", x.ring(0, 0), -2);
    x.feed(0, 0, 0, 0, 0);
    due.same("all 20", x.ring(0, 20), -2);
  }

  private static void twelveRings(Due due) {
    due.about(5, "or, the first of these: -1 there are 12");
    ForestCourts x = eleven();
    for (int k = 0; k < 12; k++) {
      due.same("ring " + k, Due.ring(x, k, 0, 1, 2), k);
    }
    due.same("a 13th", Due.ring(x, 0, 3, 4, 5), -1);
    due.same("a 13th of two marks", Due.ring(x, 0, 3, 4), -1);
    due.same("a 13th of no mark", Due.ring(x, 0, 3, 4, 200), -1);
    due.same("a 13th that is not simple", Due.ring(x, 0, 3, 4, 4), -1);
    due.same("the tape is empty", x.count(13), 0);
    due.argument("a 13th on no day", () -> x.ring(-1, 0));
    due.argument("a 13th of bytes that are not there", () -> x.ring(0, 1));
    due.same("12 are there", x.count(2), 12);
    x.unring(3, 0);
    due.same("one that is undone is there all the same", Due.ring(x, 0, 3, 4, 5), -1);
  }

  private static void tooFewOrMany(Due due) {
    due.about(5, "-2 they are not 3 to 10");
    ForestCourts x = eleven();
    due.same("none", x.ring(0, 0), -2);
    due.same("one", Due.ring(x, 0, 0), -2);
    due.same("two", Due.ring(x, 0, 0, 1), -2);
    due.same("three", Due.ring(x, 0, 0, 1, 2), 0);
    due.same("ten", Due.ring(x, 0, 0, 1, 2, 3, 4, 5, 6, 7, 8, 9), 1);
    due.same("eleven", Due.ring(x, 0, 0, 1, 2, 3, 4, 5, 6, 7, 8, 9, 10), -2);
    due.same("two, and one is no mark", Due.ring(x, 0, 0, 255), -2);
    due.same("eleven, and one is no mark", Due.ring(x, 0, 0, 1, 2, 3, 4, 5, 6, 7, 8, 9, 255), -2);
    due.same("two at one place", Due.ring(x, 0, 0, 0), -2);
    due.same("rings", x.count(2), 2);
  }

  private static void oneIsNoMark(Due due) {
    due.about(5, "-3 one is no MARK");
    ForestCourts x = eleven();
    for (int k = 0; k < 3; k++) {
      for (int b : new int[] {11, 127, 128, 255}) {
        int[] row = {0, 1, 2};
        row[k] = b;
        due.same("byte " + b + " at " + k, Due.ring(x, 0, row), -3);
      }
    }
    due.same("and two at one place", Due.ring(x, 0, 0, 0, 11), -3);
    due.same("no ring", x.count(2), 0);
    due.same("no marks at all", Due.ring(new ForestCourts(), 0, 0, 0, 0), -3);
  }

  private static void notSimple(Due due) {
    due.about(5, "-4 it is not SIMPLE.");
    ForestCourts x = eleven();
    due.same("one mark twice", Due.ring(x, 0, 0, 1, 0), -4);
    due.same("sides cross", Due.ring(x, 0, 0, 2, 1, 3), -4);
    due.same("no ring", x.count(2), 0);
    due.same("the tape is empty", x.count(13), 0);
    due.same("the next one is number 0", Due.ring(x, 0, 0, 1, 2), 0);
  }

  /** Marks at these places, x and y by turns, are a ring or not, whichever of them is the first, and backwards too. */
  private static void rings(Due due, String call, int want, int... places) {
    int n = places.length / 2;
    for (int first = 0; first < n; first++) {
      for (int step = -1; step <= 1; step += 2) {
        String whole = call + ", from place " + first + (step < 0 ? " back" : " on");
        due.same(whole, Due.ringAt(new ForestCourts(), first, step, places), want);
      }
    }
  }

  private static void atOnePlace(Due due) {
    due.about(0, "It is SIMPLE, if no two of its MARKS are at one place");
    rings(due, "three at one place", -4, 5, 5, 5, 5, 5, 5);
    rings(due, "two of three", -4, 0, 0, 10, 0, 10, 0);
    rings(due, "two of four, next to one another", -4, 0, 0, 10, 0, 10, 0, 0, 10);
    rings(due, "two of four, not next to one another", -4, 0, 0, 10, 0, 0, 0, 0, 10);
    rings(due, "two of six, two loops", -4, 50, 50, 100, 50, 100, 100, 50, 50, 0, 50, 0, 0);
    rings(due, "the least ring", 0, 0, 0, 1, 0, 0, 1);
    rings(due, "the greatest ring", 0, 0, 0, 999, 0, 999, 999, 0, 999);
    rings(due, "x alone is the same", 0, 0, 0, 0, 10, 5, 5);
    rings(due, "y alone is the same", 0, 0, 0, 10, 0, 5, 5);
  }

  private static void sidesThatMeet(Due due) {
    due.about(0, "no two SIDES that are not next to one another have a point in common");
    rings(due, "they cross", -4, 0, 0, 100, 100, 100, 0, 0, 100);
    rings(due, "they cross, upright and level", -4, 0, 50, 100, 50, 100, 100, 50, 100, 50, 0, 0, 0);
    rings(due, "they cross near an end", -4, 0, 1, 100, 1, 100, 50, 99, 0, 50, 100);
    rings(due, "a corner on a level side", -4, 0, 0, 20, 0, 20, 20, 10, 0, 0, 20);
    rings(due, "a corner on an upright side", -4, 0, 0, 0, 20, 20, 20, 0, 10, 20, 0);
    rings(due, "a corner on a slanted side", -4, 0, 0, 100, 100, 50, 100, 40, 40, 0, 50);
    rings(due, "a corner just at a side's end", -4, 0, 0, 20, 0, 20, 20, 1, 0, 0, 20);
    rings(due, "a corner through a side", -4, 0, 10, 20, 10, 20, 30, 10, 9, 0, 30);
    rings(due, "a side along another one", -4, 0, 0, 20, 0, 20, 10, 15, 0, 5, 0, 0, 10);
    rings(due, "a side along another one, farther", -4, 0, 0, 20, 0, 20, 10, 30, 10, 30, 0, 10, 0, 0, 10);
    rings(due, "a slanted side along another one", -4, 0, 0, 60, 40, 60, 100, 45, 30, 15, 10, 0, 50);
    rings(due, "two peaks that touch", -4, 0, 0, 100, 0, 50, 50, 100, 100, 0, 100, 50, 50);
    rings(due, "far ones cross", -4, 0, 0, 999, 999, 999, 0, 0, 999);
    rings(due, "ten marks, the last side through the fifth", -4,
        0, 0, 10, 0, 20, 0, 30, 0, 30, 60, 40, 60, 40, 80, 20, 80, 10, 70, 60, 30);
  }

  private static void sidesThatMissOneAnother(Due due) {
    due.about(0, "no two SIDES that are not next to one another have a point in common");
    rings(due, "a corner beside a level side", 0, 0, 0, 20, 0, 20, 20, 10, 1, 0, 20);
    rings(due, "a corner beside an upright side", 0, 0, 0, 0, 20, 20, 20, 1, 10, 20, 0);
    rings(due, "a corner beside a long slanted side", 0, 0, 0, 999, 998, 998, 999, 1, 1, 0, 2);
    rings(due, "on the line of a side, not on the side", 0, 0, 0, 20, 0, 20, 20, 50, 0, 50, 30, 0, 30);
    rings(due, "sides on one line that do not meet", 0, 0, 0, 20, 0, 20, 20, 30, 20, 30, 0, 50, 0, 50, 50, 0, 50);
    rings(due, "beyond a slanted side's end, within its height and breadth", 0,
        0, 0, 100, 100, 80, 110, 90, 120, 120, 90, 120, 0);
    rings(due, "beside a slanted side, within its height and breadth", 0, 0, 0, 100, 100, 90, 60, 80, 60, 60, 10, 90, 0);
    rings(due, "one straight step apart", 0, 0, 0, 10, 0, 10, 10, 9, 10, 9, 1, 1, 1, 1, 10, 0, 10);
    rings(due, "a comb of ten", 0, 0, 0, 90, 0, 90, 50, 70, 50, 70, 1, 50, 1, 50, 50, 30, 50, 30, 1, 0, 50);
  }

  private static void sidesNextToOneAnother(Due due) {
    due.about(0, "and two that are next have none but the MARK between them.");
    rings(due, "three on a level line", -4, 0, 0, 10, 0, 20, 0);
    rings(due, "three on an upright line", -4, 7, 0, 7, 10, 7, 20);
    rings(due, "three on a slanted line", -4, 0, 0, 10, 20, 20, 40);
    rings(due, "back on a level side", -4, 0, 0, 20, 0, 10, 0, 10, 10);
    rings(due, "back on an upright side", -4, 0, 0, 0, 20, 0, 10, 10, 10);
    rings(due, "back on a slanted side", -4, 0, 0, 40, 20, 20, 10, 0, 30);
    rings(due, "back on a side and beyond its start", -4, 30, 0, 60, 0, 10, 0, 10, 50);
    rings(due, "straight on, level", 0, 0, 0, 10, 0, 20, 0, 0, 20);
    rings(due, "straight on, upright", 0, 0, 0, 0, 10, 0, 20, 20, 0);
    rings(due, "straight on, slanted", 0, 0, 0, 10, 20, 20, 40, 0, 40);
    rings(due, "straight on, level, and farther", 0, 0, 0, 10, 0, 30, 0, 0, 20);
    rings(due, "straight on, upright, and farther", 0, 0, 0, 0, 10, 0, 30, 20, 0);
    rings(due, "straight on, slanted, and farther", 0, 0, 0, 10, 20, 30, 60, 0, 60);
    rings(due, "straight on, slanted down, and farther", 0, 0, 60, 10, 40, 30, 0, 0, 0);
    rings(due, "straight on three times", 0, 0, 0, 10, 0, 20, 0, 30, 0, 20, 10, 10, 20);
    rings(due, "back beside a side", 0, 0, 0, 20, 0, 0, 1);
    rings(due, "back beside a long slanted side", 0, 0, 0, 999, 998, 1, 1);
    rings(due, "back beside a long slanted side, sharp", 0, 999, 999, 0, 0, 998, 999);
  }
}
