/** Promises 6 to 9 (unring, strip, bounds, where). */
public final class PlacesTest {
  public static void main(String[] args) {
    Due due = new Due();
    undoing(due);
    noUndoing(due);
    strips(due);
    boundsOfDays(due);
    undoneBounds(due);
    noDay(due);
    noPlace(due);
    withoutBounds(due);
    onSides(due);
    nearSides(due);
    nearCorners(due);
    farEnough(due);
    inOrOut(due);
    due.end();
  }

  private static ForestCourts threeMarks() {
    ForestCourts x = new ForestCourts();
    x.mark(0, 0, 0);
    x.mark(1, 100, 0);
    x.mark(2, 0, 100);
    return x;
  }

  private static void undoing(Due due) {
    due.about(6, "A RING is UNDONE from a DAY on (NONE: never): what it was.");
    ForestCourts x = threeMarks();
    Due.ring(x, 10, 0, 1, 2);
    Due.ring(x, 20, 0, 1, 2);
    due.same("it was never", x.unring(1, 25), -1);
    due.same("the day ahead", x.bounds(24), 1);
    due.same("from that day on", x.bounds(25), 0);
    due.same("another day", x.unring(1, 100000), 25);
    due.same("not undone then", x.bounds(99999), 1);
    due.same("undone on the last day", x.bounds(100000), 0);
    due.same("never again", x.unring(1, -1), 100000);
    due.same("it stands on the last day", x.bounds(100000), 1);
    due.same("it was never", x.unring(1, -1), -1);
    due.same("from the first day on", x.unring(1, 0), -1);
    due.same("undone ahead of its day", x.bounds(20), 0);
    due.same("it was the first day", x.unring(1, 20), 0);
    due.same("undone on its day", x.bounds(20), 0);
    due.same("the other one was never", x.unring(0, 15), -1);
    due.same("both are undone", x.bounds(20), -1);
  }

  private static void noUndoing(Due due) {
    due.about(6, "IndexOutOfBoundsException: no such RING");
    ForestCourts x = threeMarks();
    Due.ring(x, 0, 0, 1, 2);
    Due.ring(x, 0, 0, 1, 2);
    due.numbered("ring", 2, n -> x.unring(n, 5));
    due.numbered("ring on no day", 2, n -> x.unring(n, -2));
    due.about(6, "IllegalArgumentException: the DAY.");
    due.only("day", -1, 100000, n -> x.unring(1, n));
    due.same("it was never", x.unring(1, 7), -1);
  }

  private static void strips(Due due) {
    due.about(7, "STRIP: what it was.");
    ForestCourts x = new ForestCourts();
    due.same("at first", x.strip(100), 0);
    due.same("then", x.strip(1), 100);
    due.same("then", x.strip(0), 1);
    due.about(7, "IllegalArgumentException: it is none such.");
    due.only("strip", 0, 100, x::strip);
    due.same("as it was", x.strip(5), 0);
    due.only("strip", 0, 100, x::strip);
    due.same("as it was", x.strip(5), 5);
  }

  private static void boundsOfDays(Due due) {
    due.about(8, "The RING of the BOUNDS of a DAY; NONE.");
    due.about(0, "BOUNDS of a DAY: of all RINGS from that DAY, or one ahead, and not UNDONE on it, the one from the latest DAY "
        + "(of these the greatest number).");
    ForestCourts x = threeMarks();
    due.same("no ring", x.bounds(0), -1);
    Due.ring(x, 10, 0, 1, 2);
    Due.ring(x, 30, 0, 1, 2);
    Due.ring(x, 20, 0, 1, 2);
    Due.ring(x, 20, 0, 1, 2);
    Due.ring(x, 100000, 0, 1, 2);
    int[] days = {0, 9, 10, 11, 19, 20, 21, 29, 30, 31, 99999, 100000};
    int[] want = {-1, -1, 0, 0, 0, 3, 3, 3, 1, 1, 1, 4};
    for (int k = 0; k < days.length; k++) {
      due.same("bounds(" + days[k] + ")", x.bounds(days[k]), want[k]);
    }
    Due.ring(x, 0, 0, 1, 2);
    due.same("from the first day on", x.bounds(0), 5);
    due.same("a greater number from an earlier day", x.bounds(10), 0);
    Due.ring(x, 30, 0, 1, 2);
    due.same("a greater number from the same day", x.bounds(30), 6);
  }

  private static void undoneBounds(Due due) {
    due.about(0, "and not UNDONE on it");
    ForestCourts x = threeMarks();
    Due.ring(x, 10, 0, 1, 2);
    Due.ring(x, 20, 0, 1, 2);
    Due.ring(x, 20, 0, 1, 2);
    x.unring(2, 25);
    due.same("until then", x.bounds(24), 2);
    due.same("then the other one from that day", x.bounds(25), 1);
    x.unring(1, 30);
    due.same("until then", x.bounds(29), 1);
    due.same("then the one from an earlier day", x.bounds(30), 0);
    x.unring(0, 40);
    due.same("until then", x.bounds(39), 0);
    due.same("then none", x.bounds(40), -1);
    due.same("out without bounds", x.where(40, 0, 0), 0);
    due.same("there were some", x.where(39, 0, 0), 2);
  }

  private static void noDay(Due due) {
    due.about(8, "IllegalArgumentException: the DAY.");
    ForestCourts x = threeMarks();
    due.only("day", 0, 100000, x::bounds);
    due.about(9, "IllegalArgumentException: the DAY, or the place.");
    due.only("day", 0, 100000, n -> x.where(n, 5, 5));
  }

  private static void noPlace(Due due) {
    due.about(9, "IllegalArgumentException: the DAY, or the place.");
    ForestCourts x = new ForestCourts();
    Due.square(x, 0, 999);
    due.only("x", 0, 999, n -> x.where(0, n, 5));
    due.only("y", 0, 999, n -> x.where(0, 5, n));
    due.same("the least place", x.where(0, 0, 0), 2);
    due.same("the greatest place", x.where(100000, 999, 999), 2);
    due.same("in", x.where(0, 1, 998), 1);
  }

  private static void withoutBounds(Due due) {
    due.about(0, "OUT without BOUNDS.");
    ForestCourts x = threeMarks();
    x.strip(100);
    Due.ring(x, 10, 0, 1, 2);
    due.same("the day ahead", x.where(9, 0, 0), 0);
    due.same("from that day on", x.where(10, 0, 0), 2);
    due.about(9, "What a place is on a DAY: 0 to 2.");
    x.strip(0);
    due.same("out", x.where(10, 51, 50), 0);
    due.same("in", x.where(10, 49, 50), 1);
    due.same("doubtful", x.where(10, 50, 50), 2);
  }

  /** What a place is by a ring of marks at these places, whichever is the first, and backwards too. */
  private static void is(Due due, String call, int want, int strip, int x, int y, int... places) {
    int n = places.length / 2;
    for (int first = 0; first < n; first++) {
      for (int step = -1; step <= 1; step += 2) {
        ForestCourts woods = new ForestCourts();
        Due.ringAt(woods, first, step, places);
        woods.strip(strip);
        due.same(call + ", from mark " + first + (step < 0 ? " back" : " on"), woods.where(0, x, y), want);
      }
    }
  }

  /** A triangle: its sides go up by four thirds, down by three quarters, and back by a seventh. */
  private static final int[] SLANTED = {100, 100, 400, 500, 800, 200};

  private static void onSides(Due due) {
    due.about(0, "A place is DOUBTFUL on a DAY (2), if it is on a SIDE of the BOUNDS");
    is(due, "at a corner", 2, 0, 400, 500, SLANTED);
    is(due, "on a side, near its end", 2, 0, 103, 104, SLANTED);
    is(due, "on a side, in its middle", 2, 0, 600, 350, SLANTED);
    is(due, "on the third side", 2, 0, 450, 150, SLANTED);
    is(due, "next to it, in", 1, 0, 104, 105, SLANTED);
    is(due, "next to it, out", 0, 0, 103, 105, SLANTED);
    is(due, "on its line, beyond its end", 0, 0, 97, 96, SLANTED);
    is(due, "on its line, beyond its other end", 0, 0, 403, 504, SLANTED);
    int[] square = {100, 100, 200, 100, 200, 200, 100, 200};
    is(due, "on a level side", 2, 0, 150, 100, square);
    is(due, "on an upright side", 2, 0, 200, 150, square);
    is(due, "one ahead of the end of a level side", 2, 0, 199, 100, square);
    is(due, "one beyond the end of a level side", 0, 0, 201, 100, square);
    is(due, "one beyond the end of an upright side", 0, 0, 200, 201, square);
    is(due, "one from a level side, in", 1, 0, 150, 101, square);
    is(due, "one from a level side, out", 0, 0, 150, 99, square);
    is(due, "one from an upright side, in", 1, 0, 199, 150, square);
    is(due, "one from an upright side, out", 0, 0, 201, 150, square);
  }

  private static void nearSides(Due due) {
    due.about(0, "or so near to one (by the straight way) as STRIP tells (0 to 100; 0 at first), or nearer");
    // 5 times (4, -3) from (250, 300), which is on the first side: 25 away
    is(due, "25 away, out", 2, 25, 270, 285, SLANTED);
    is(due, "25 away, in", 2, 25, 270, 285, 100, 100, 400, 500, 100, 500);
    is(due, "farther than 24, out", 0, 24, 270, 285, 100, 100, 400, 500, 100, 500);
    is(due, "farther than 24, in", 1, 24, 270, 285, SLANTED);
    is(due, "nearer than 26", 2, 26, 270, 285, SLANTED);
    is(due, "nearer than 100", 2, 100, 270, 285, SLANTED);
    int[] square = {300, 300, 600, 300, 600, 600, 300, 600};
    for (int strip : new int[] {1, 2, 50, 99, 100}) {
      is(due, "just so far, level", 2, strip, 450, 300 - strip, square);
      is(due, "just so far, upright", 2, strip, 600 + strip, 450, square);
      is(due, "just so far, within", 2, strip, 450, 300 + strip, square);
      is(due, "one farther, level", 0, strip, 450, 299 - strip, square);
      is(due, "one farther, upright", 0, strip, 601 + strip, 450, square);
      is(due, "one farther, within", 1, strip, 450, 301 + strip, square);
      is(due, "just so far, at the height of an end", 2, strip, 600 + strip, 300, square);
      is(due, "one farther, at the height of an end", 0, strip, 601 + strip, 300, square);
    }
  }

  private static void nearCorners(Due due) {
    due.about(0, "or so near to one (by the straight way) as STRIP tells (0 to 100; 0 at first), or nearer");
    int[] square = {300, 300, 600, 300, 600, 600, 300, 600};
    is(due, "60 and 80 from a corner", 2, 100, 660, 680, square);
    is(due, "61 and 80 from a corner", 0, 100, 661, 680, square);
    is(due, "60 and 81 from a corner", 0, 100, 660, 681, square);
    is(due, "3 and 4 from a corner", 2, 5, 297, 296, square);
    is(due, "4 and 4 from a corner", 0, 5, 296, 296, square);
    is(due, "4 and 4 from a corner, 6 reach", 2, 6, 296, 296, square);
    is(due, "1 and 1 from a corner, 1 does not reach", 0, 1, 299, 601, square);
    is(due, "1 and 1 from a corner, 2 reach", 2, 2, 299, 601, square);
    is(due, "15 and 20 from a sharp corner", 2, 25, 85, 80, SLANTED);
    is(due, "16 and 20 from a sharp corner", 0, 25, 84, 80, SLANTED);
    // (10, -20) from the end of a side that goes up by a tenth: about 22 away
    is(due, "beyond the end of a slanted side", 0, 22, 510, 90, 400, 100, 500, 110, 400, 300);
    is(due, "beyond it and reached", 2, 23, 510, 90, 400, 100, 500, 110, 400, 300);
    is(due, "beyond its other end", 0, 22, 390, 80, 400, 100, 500, 110, 500, 300);
    is(due, "beyond that and reached", 2, 23, 390, 80, 400, 100, 500, 110, 500, 300);
    is(due, "below an upright side's end", 0, 22, 110, 80, 100, 100, 110, 200, 300, 250);
    is(due, "below that and reached", 2, 23, 110, 80, 100, 100, 110, 200, 300, 250);
  }

  private static void farEnough(Due due) {
    due.about(0, "(by the straight way)");
    // the squares of what is held against one another are greater than 32 bits hold
    int[] half = {0, 0, 999, 999, 0, 999};
    is(due, "far out", 0, 100, 999, 0, half);
    is(due, "far out, farther up", 0, 100, 900, 5, half);
    is(due, "just over 100 from the diagonal, out", 0, 100, 571, 429, half);
    is(due, "just under 100 from the diagonal, out", 2, 100, 570, 429, half);
    is(due, "just over 100 from the diagonal, in", 1, 100, 429, 571, half);
    is(due, "just under 100 from the diagonal, in", 2, 100, 430, 571, half);
    is(due, "in the midst of it", 1, 100, 250, 750, half);
    is(due, "far in", 1, 0, 1, 998, half);
  }

  private static void inOrOut(Due due) {
    due.about(0, "else it is IN (1), or OUT (0)");
    // corners at the height of the place: a peak, a flat step, a dent
    int[] dented = {0, 50, 50, 0, 100, 50, 100, 100, 60, 100, 50, 50, 40, 100, 0, 100};
    is(due, "left of the dent's corner", 1, 0, 20, 50, dented);
    is(due, "right of the dent's corner", 1, 0, 80, 50, dented);
    is(due, "in the dent", 0, 0, 50, 90, dented);
    is(due, "at the dent's corner", 2, 0, 50, 50, dented);
    is(due, "below the dent's corner", 1, 0, 50, 49, dented);
    is(due, "out at the height of corners", 0, 0, 110, 50, dented);
    is(due, "at the height of the peak, left", 0, 0, 10, 0, dented);
    is(due, "at the height of the peak, right", 0, 0, 90, 0, dented);
    is(due, "at the height of the flat top, in the dent", 0, 0, 50, 100, dented);
    is(due, "at the height of the flat top, right", 0, 0, 101, 100, dented);
    is(due, "on the flat top", 2, 0, 20, 100, dented);
    int[] steps = {100, 100, 400, 100, 400, 200, 300, 200, 300, 300, 200, 300, 200, 400, 100, 400};
    is(due, "left of all steps", 0, 0, 50, 200, steps);
    is(due, "within, at the height of a step", 1, 0, 250, 200, steps);
    is(due, "right of all, at the height of a step", 0, 0, 450, 200, steps);
    is(due, "within, at the height of the next", 1, 0, 150, 300, steps);
    is(due, "right of it, at the height of the next", 0, 0, 350, 300, steps);
    is(due, "under a step", 1, 0, 399, 199, steps);
    is(due, "on top of a step", 0, 0, 399, 201, steps);
    is(due, "the least ring has no place that is in", 0, 0, 1, 1, 0, 0, 1, 0, 0, 1);
    is(due, "one place is in", 1, 0, 1, 1, 0, 0, 2, 0, 2, 2, 0, 2);
  }
}
