/** Promises 3 (mark) and 5 to 9 (ring, unring, strip, bounds, where). */
public final class BoundsTest {
  public static void main(String[] args) {
    Due due = new Due();
    marks(due);
    ringFaults(due);
    simple(due);
    boundsOfDays(due);
    undoing(due);
    strips(due);
    corners(due);
    due.end();
  }

  private static void marks(Due due) {
    ForestCourts x = new ForestCourts();
    due.argument("name -1", () -> x.mark(-1, 0, 0));
    due.argument("name 20", () -> x.mark(20, 0, 0));
    due.argument("x -1", () -> x.mark(0, -1, 0));
    due.argument("x 1000", () -> x.mark(0, 1000, 0));
    due.argument("y -1", () -> x.mark(0, 0, -1));
    due.argument("y 1000", () -> x.mark(0, 0, 1000));
    due.same("the least", x.mark(0, 0, 0), 0);
    due.same("the greatest", x.mark(19, 999, 999), 1);
    for (int k = 0; k < 3; k++) {
      due.same("more of name 0", x.mark(0, 0, 0), 2 + k);
    }
    due.same("a fifth of name 0", x.mark(0, 1, 1), -1);
    due.same("it is none", x.count(1), 5);
    for (int k = 5; k < 40; k++) {
      due.same("mark " + k, x.mark(1 + k / 4, k, k), k);
    }
    due.state("a 41st", () -> x.mark(19, 5, 5));
    due.argument("a 41st of no name", () -> x.mark(20, 5, 5));
    due.same("40 are there", x.count(1), 40);
  }

  private static void ringFaults(Due due) {
    ForestCourts x = new ForestCourts();
    int[] xs = {0, 100, 200, 300, 300, 200, 100, 0, 0, 0, 0};
    int[] ys = {0, 0, 0, 0, 100, 100, 100, 100, 75, 50, 25};
    for (int k = 0; k < 11; k++) {
      x.mark(k, xs[k], ys[k]);
    }
    due.argument("no byte is there", () -> x.ring(0, 1));
    due.argument("less than none", () -> x.ring(0, -1));
    due.same("none", x.ring(0, 0), -2);
    x.feed(0x00010304, 0, 0, 0, 0);
    due.argument("day -1", () -> x.ring(-1, 4));
    due.argument("day 100001", () -> x.ring(100001, 4));
    due.argument("21 of 20", () -> x.ring(0, 21));
    due.same("the tape is as it was", x.count(13), 20);
    due.same("2", x.ring(0, 2), -2);
    due.same("the tape is empty", x.count(13), 0);
    due.same("11", Due.ring(x, 0, 0, 1, 2, 3, 4, 5, 6, 7, 8, 9, 10), -2);
    due.same("11, one of them no mark", Due.ring(x, 0, 0, 1, 2, 3, 4, 5, 6, 7, 8, 9, 200), -2);
    due.same("10", Due.ring(x, 0, 0, 1, 2, 3, 4, 5, 6, 7, 8, 9), 0);
    due.same("no mark 11", Due.ring(x, 0, 0, 1, 11), -3);
    due.same("no mark 255, and one twice", Due.ring(x, 0, 0, 0, 255), -3);
    due.same("one twice", Due.ring(x, 0, 0, 0, 4), -4);
    for (int k = 1; k < 12; k++) {
      due.same("ring " + k, Due.ring(x, 100000, 0, 3, 7), k);
    }
    due.same("a 13th", Due.ring(x, 0, 0, 3, 7), -1);
    due.same("a 13th of two", Due.ring(x, 0, 0, 3), -1);
    due.same("the tape is empty", x.count(13), 0);
    due.same("12 are there", x.count(2), 12);
  }

  private static void simple(Due due) {
    ForestCourts x = new ForestCourts();
    int[] xs = {0, 100, 100, 0, 50, 50, 0, 25, 200, 100};
    int[] ys = {0, 0, 100, 100, 50, 0, 0, 25, 0, 0};
    for (int k = 0; k < xs.length; k++) {
      x.mark(k, xs[k], ys[k]);
    }
    due.same("sides cross", Due.ring(x, 0, 0, 2, 1, 3), -4);
    due.same("a mark on another side", Due.ring(x, 0, 0, 1, 2, 5, 3), -4);
    due.same("a mark between two on their line", Due.ring(x, 0, 0, 5, 1, 2), 0);
    due.same("three on a line", Due.ring(x, 0, 0, 5, 1), -4);
    due.same("there and back", Due.ring(x, 0, 0, 1, 5, 2), -4);
    due.same("two marks at one place", Due.ring(x, 0, 0, 1, 2, 6), -4);
    due.same("two marks at one place, not next to one another", Due.ring(x, 0, 0, 1, 9, 3), -4);
    due.same("the last side folds back on the first", Due.ring(x, 0, 0, 1, 2, 5), -4);
    due.same("the last side folds back on the one ahead", Due.ring(x, 0, 5, 2, 3, 0, 1), -4);
    due.same("a dent", Due.ring(x, 0, 0, 1, 2, 4, 3), 1);
    due.same("a corner touches a side that is not next", Due.ring(x, 0, 0, 2, 3, 4, 1), -4);
    due.same("a side through a mark far off", Due.ring(x, 0, 8, 5, 3, 1, 2), -4);
    due.same("the other way round", Due.ring(x, 0, 3, 2, 1, 0), 2);
    smallAndTouching(due);
  }

  private static void smallAndTouching(Due due) {
    ForestCourts x = new ForestCourts();
    int[] xs = {0, 1, 0, 10, 20, 20, 10, 10, 0, 0, 20};
    int[] ys = {0, 0, 1, 0, 0, 20, 10, 20, 20, 10, 10};
    for (int k = 0; k < xs.length; k++) {
      x.mark(k, xs[k], ys[k]);
    }
    due.same("the least ring", Due.ring(x, 0, 0, 1, 2), 0);
    due.same("the least ring the other way round", Due.ring(x, 0, 0, 2, 1), 1);
    due.same("from the left up to a side", Due.ring(x, 0, 3, 7, 8, 6, 0), -4);
    due.same("from the right up to a side", Due.ring(x, 0, 7, 3, 4, 6, 5), -4);
    due.same("from below up to a side", Due.ring(x, 0, 9, 10, 4, 6, 0), -4);
    due.same("from above down to a side", Due.ring(x, 0, 10, 9, 8, 6, 5), -4);
    due.same("two on one line that do not meet", Due.ring(x, 0, 9, 6, 7, 5, 10, 4, 0), 2);
    due.same("the last side on the first", Due.ring(x, 0, 0, 1, 2, 8, 7, 6, 10, 4, 3), -4);
    due.same("far from one another", Due.ring(x, 0, 0, 4, 5, 8), 3);
  }

  private static void boundsOfDays(Due due) {
    ForestCourts x = new ForestCourts();
    x.mark(0, 0, 0);
    x.mark(1, 100, 0);
    x.mark(2, 0, 100);
    due.same("ring 0 from day 10", Due.ring(x, 10, 0, 1, 2), 0);
    due.same("ring 1 from day 30", Due.ring(x, 30, 0, 1, 2), 1);
    due.same("ring 2 from day 20", Due.ring(x, 20, 0, 1, 2), 2);
    due.same("ring 3 from day 20", Due.ring(x, 20, 0, 1, 2), 3);
    int[] days = {0, 9, 10, 19, 20, 29, 30, 100000};
    int[] want = {-1, -1, 0, 0, 3, 3, 1, 1};
    for (int k = 0; k < days.length; k++) {
      due.same("bounds(" + days[k] + ")", x.bounds(days[k]), want[k]);
    }
    due.argument("day -1", () -> x.bounds(-1));
    due.argument("day 100001", () -> x.bounds(100001));
  }

  private static void undoing(Due due) {
    ForestCourts x = new ForestCourts();
    x.mark(0, 0, 0);
    x.mark(1, 100, 0);
    x.mark(2, 0, 100);
    Due.ring(x, 10, 0, 1, 2);
    Due.ring(x, 20, 0, 1, 2);
    due.index("ring -1", () -> x.unring(-1, 5));
    due.index("ring 2", () -> x.unring(2, 5));
    due.index("ring 2 and no day", () -> x.unring(2, -2));
    due.argument("day -2", () -> x.unring(1, -2));
    due.argument("day 100001", () -> x.unring(1, 100001));
    due.same("it was never", x.unring(1, 25), -1);
    due.same("the day ahead", x.bounds(24), 1);
    due.same("from that day on", x.bounds(25), 0);
    due.same("another day", x.unring(1, 100000), 25);
    due.same("not undone then", x.bounds(99999), 1);
    due.same("undone on the last day", x.bounds(100000), 0);
    due.same("never again", x.unring(1, -1), 100000);
    due.same("it stands on the last day", x.bounds(100000), 1);
    due.same("it was never again", x.unring(1, 0), -1);
    due.same("undone ahead of its day", x.bounds(20), 0);
    x.unring(0, 15);
    due.same("both are undone", x.bounds(15), -1);
    due.same("out without bounds", x.where(15, 0, 0), 0);
    due.same("there were some", x.where(14, 0, 0), 2);
  }

  private static void strips(Due due) {
    ForestCourts x = new ForestCourts();
    x.mark(0, 100, 100);
    x.mark(1, 400, 500);
    x.mark(2, 100, 500);
    Due.ring(x, 0, 0, 1, 2);
    due.same("on a slanted side", x.where(0, 103, 104), 2);
    due.same("just beside it, in", x.where(0, 103, 105), 1);
    due.same("just beside it, out", x.where(0, 104, 104), 0);
    due.same("in", x.where(0, 150, 450), 1);
    // the place is 5 times (4, -3) off the side: 25 away
    due.same("strip was 0", x.strip(25), 0);
    due.same("25 from the side", x.where(0, 250 + 20, 300 - 15), 2);
    x.strip(24);
    due.same("farther than 24", x.where(0, 250 + 20, 300 - 15), 0);
    due.same("farther than 24, inside", x.where(0, 250 - 20, 300 + 15), 1);
    x.strip(25);
    due.same("25 from the side, inside", x.where(0, 250 - 20, 300 + 15), 2);
    // beyond the end of a side its end is the nearest: 15, 20 off is 25 away
    due.same("25 from a corner", x.where(0, 85, 80), 2);
    due.same("farther than 25 from a corner", x.where(0, 84, 80), 0);
    due.same("strip was 25", x.strip(100), 25);
    due.same("60 and 80 from a corner", x.where(0, 460, 580), 2);
    due.same("61 and 80 from a corner", x.where(0, 461, 580), 0);
    due.argument("strip -1", () -> x.strip(-1));
    due.argument("strip 101", () -> x.strip(101));
    due.same("strip was 100", x.strip(0), 100);
    due.argument("day -1", () -> x.where(-1, 0, 0));
    due.argument("day 100001", () -> x.where(100001, 0, 0));
    due.argument("x -1", () -> x.where(0, -1, 0));
    due.argument("x 1000", () -> x.where(0, 1000, 0));
    due.argument("y -1", () -> x.where(0, 0, -1));
    due.argument("y 1000", () -> x.where(0, 0, 1000));
    due.same("the last place", x.where(100000, 999, 999), 0);
  }

  private static void corners(Due due) {
    // corners at the height of the place: a peak, a flat step, a dent
    ForestCourts x = new ForestCourts();
    int[] xs = {0, 50, 100, 100, 60, 50, 40, 0};
    int[] ys = {50, 0, 50, 100, 100, 50, 100, 100};
    for (int k = 0; k < xs.length; k++) {
      x.mark(k, xs[k], ys[k]);
    }
    due.same("ring", Due.ring(x, 0, 0, 1, 2, 3, 4, 5, 6, 7), 0);
    due.same("left of the dent's corner", x.where(0, 20, 50), 1);
    due.same("right of the dent's corner", x.where(0, 80, 50), 1);
    due.same("in the dent", x.where(0, 50, 90), 0);
    due.same("at the dent's corner", x.where(0, 50, 50), 2);
    due.same("out at the height of corners", x.where(0, 110, 50), 0);
    due.same("at the height of the peak", x.where(0, 10, 0), 0);
    due.same("at the height of the flat top", x.where(0, 50, 100), 0);
    due.same("on the flat top", x.where(0, 20, 100), 2);
  }
}
