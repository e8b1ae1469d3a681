/** Promises 35 to 38 (lodge, spot, beats, beat). */
public final class BeatsTest {
  public static void main(String[] args) {
    Due due = new Due();
    lodges(due);
    noLodge(due);
    spots(due);
    noSpot(due);
    eightSpots(due);
    noBeat(due);
    withoutLodges(due);
    thereAndBack(due);
    greatestReach(due);
    inSomeOrder(due);
    firstTwo(due);
    mostWorth(due);
    theFirstWay(due);
    eight(due);
    askedSpotBySpot(due);
    due.end();
  }

  private static ForestCourts woods(int wardens) {
    ForestCourts x = new ForestCourts();
    x.person(0, 0);
    for (int k = 0; k < wardens; k++) {
      x.warden(0, 1, 0);
    }
    return x;
  }

  private static void beats(Due due, String call, ForestCourts x, int worth, int... want) {
    due.same(call + ": beats()", x.beats(), worth);
    for (int s = 0; s < want.length; s++) {
      due.same(call + ": beat(" + s + ")", x.beat(s), want[s]);
    }
  }

  private static void lodges(Due due) {
    due.about(0, "LODGES of WARDENS: a place, a REACH (0 to 4,000).");
    due.about(35, "A LODGE of a WARDEN (another one, if there was one): 1.");
    ForestCourts x = woods(2);
    due.same("the least of all", x.lodge(0, 0, 0, 0), 1);
    due.same("the greatest of all", x.lodge(1, 999, 999, 4000), 1);
    x.spot(0, 0, 5);
    x.spot(999, 999, 7);
    beats(due, "each at his own", x, 12, 0, 1);
    due.same("another one", x.lodge(0, 999, 999, 0), 1);
    due.same("another one", x.lodge(1, 0, 0, 0), 1);
    beats(due, "the other way round", x, 12, 1, 0);
    due.same("another reach", x.lodge(1, 0, 1, 1), 1);
    beats(due, "too short", x, 7, -1, 0);
    due.same("the same again", x.lodge(1, 0, 1, 2), 1);
    beats(due, "long enough", x, 12, 1, 0);
  }

  private static void noLodge(Due due) {
    due.about(35, "IndexOutOfBoundsException: no such WARDEN");
    ForestCourts x = woods(2);
    x.spot(5, 5, 1);
    due.numbered("warden", 2, n -> x.lodge(n, 5, 5, 5));
    due.numbered("warden at no place", 2, n -> x.lodge(n, 1000, 5, 5));
    due.about(35, "IllegalArgumentException: place or REACH.");
    due.only("x", 0, 999, n -> x.lodge(1, n, 5, 5));
    due.only("y", 0, 999, n -> x.lodge(1, 5, n, 5));
    due.only("reach", 0, 4000, n -> x.lodge(1, 5, 5, n));
    beats(due, "no lodge", x, 0, -1);
    x.lodge(1, 5, 5, 5);
    due.only("reach", 0, 4000, n -> x.lodge(1, 5, 5, n));
    beats(due, "the lodge as it was", x, 1, 1);
  }

  private static void spots(Due due) {
    due.about(0, "SPOTS, numbered from 0 on, 8 at most: a place, a WORTH (1 to 1,000).");
    due.about(36, "A SPOT: its number");
    ForestCourts x = woods(1);
    due.same("the least of all", x.spot(0, 0, 1), 0);
    due.same("the greatest of all", x.spot(999, 999, 1000), 1);
    due.same("at the same place", x.spot(999, 999, 1000), 2);
    due.same("spots", x.count(10), 3);
    x.lodge(0, 999, 999, 0);
    beats(due, "two at one place", x, 2000, -1, 0, 0);
  }

  private static void noSpot(Due due) {
    due.about(36, "IllegalArgumentException: place or WORTH.");
    ForestCourts x = woods(1);
    due.only("x", 0, 999, n -> x.spot(n, 5, 5));
    due.only("y", 0, 999, n -> x.spot(5, n, 5));
    due.only("worth", 1, 1000, n -> x.spot(5, 5, n));
    due.same("no spot", x.count(10), 0);
  }

  private static void eightSpots(Due due) {
    due.about(36, "-1: there are 8.");
    ForestCourts x = woods(1);
    x.lodge(0, 999, 999, 0);
    for (int k = 0; k < 8; k++) {
      due.same("spot " + k, x.spot(999, 999, 1000), k);
    }
    due.same("a ninth", x.spot(999, 999, 1), -1);
    due.argument("a ninth of no worth", () -> x.spot(999, 999, 0));
    due.same("8 are there", x.count(10), 8);
    beats(due, "eight", x, 8000, 0, 0, 0, 0, 0, 0, 0, 0);
  }

  private static void noBeat(Due due) {
    due.about(38, "IndexOutOfBoundsException: no such SPOT.");
    ForestCourts x = woods(1);
    x.lodge(0, 5, 5, 50);
    due.numbered("of none", 0, x::beat);
    x.spot(5, 5, 1);
    x.spot(5, 5, 1);
    due.numbered("of two", 2, x::beat);
    for (int k = 0; k < 8; k++) {
      x.spot(5, 5, 1);
    }
    due.numbered("of eight", 8, x::beat);
  }

  private static void withoutLodges(Due due) {
    due.about(37, "The WORTH of BEATS; 0 without LODGES.");
    due.about(38, "The WARDEN in whose BEAT a SPOT is; NONE.");
    due.same("nothing at all", new ForestCourts().beats(), 0);
    ForestCourts x = woods(6);
    x.spot(5, 5, 9);
    x.spot(5, 5, 9);
    beats(due, "six wardens without", x, 0, -1, -1);
    x.lodge(5, 5, 5, 0);
    beats(due, "one lodge", x, 18, 5, 5);
    ForestCourts y = woods(1);
    y.lodge(0, 5, 5, 4000);
    beats(due, "no spots", y, 0);
  }

  private static void thereAndBack(Due due) {
    due.about(0, "A BEAT of a WARDEN with a LODGE: some SPOTS, that can be gone to, and back, in some order, by x and y, within the REACH.");
    ForestCourts x = woods(1);
    x.spot(110, 90, 5);
    x.lodge(0, 100, 100, 39);
    beats(due, "39 of 40", x, 0, -1);
    x.lodge(0, 100, 100, 40);
    beats(due, "40 of 40", x, 5, 0);
    x.lodge(0, 100, 100, 41);
    beats(due, "41 of 40", x, 5, 0);
    x.spot(90, 100, 4);
    beats(due, "both are too far", x, 5, 0, -1);
    x.lodge(0, 100, 100, 59);
    beats(due, "59 is not enough", x, 5, 0, -1);
    x.lodge(0, 100, 100, 60);
    beats(due, "60 is", x, 9, 0, 0);
    x.lodge(0, 90, 100, 0);
    beats(due, "at the lodge", x, 4, -1, 0);
    x.lodge(0, 91, 100, 1);
    beats(due, "one beside the lodge", x, 0, -1, -1);
  }

  private static void greatestReach(Due due) {
    due.about(0, "by x and y, within the REACH.");
    ForestCourts x = woods(1);
    x.spot(999, 999, 1000);
    x.lodge(0, 0, 0, 3996);
    beats(due, "across all and back", x, 1000, 0);
    x.lodge(0, 0, 0, 3995);
    beats(due, "one less", x, 0, -1);
    x.lodge(0, 0, 0, 4000);
    x.spot(0, 1, 3);
    x.spot(999, 0, 4);
    beats(due, "on the way", x, 1007, 0, 0, 0);
    x.spot(0, 999, 5);
    beats(due, "on the way back", x, 1012, 0, 0, 0, 0);
    x.spot(500, 502, 2000 / 2);
    beats(due, "two steps off the way are four too many", x, 2008, 0, 0, -1, 0, 0);
  }

  private static void inSomeOrder(Due due) {
    due.about(0, "in some order");
    // the order matters: a square round of 400, but 800 when gone to and fro
    ForestCourts x = woods(1);
    x.lodge(0, 0, 0, 400);
    x.spot(100, 0, 1);
    x.spot(0, 100, 1);
    x.spot(100, 100, 1);
    x.spot(50, 100, 1);
    x.spot(100, 50, 1);
    beats(due, "one round", x, 5, 0, 0, 0, 0, 0);
    x.lodge(0, 0, 0, 399);
    beats(due, "one less", x, 2, 0, -1, -1, -1, 0);
    x.spot(101, 101, 100);
    beats(due, "one far spot that can't be reached", x, 2, 0, -1, -1, -1, 0, -1);
    x.lodge(0, 0, 0, 404);
    beats(due, "all", x, 105, 0, 0, 0, 0, 0, 0);
    ForestCourts y = woods(1);
    y.spot(100, 100, 1);
    y.spot(100, 0, 1);
    y.spot(0, 100, 1);
    y.lodge(0, 0, 0, 400);
    beats(due, "the first spot between the others", y, 3, 0, 0, 0);
  }

  private static void firstTwo(Due due) {
    due.about(0, "BEATS of the first two WARDENS with LODGES (or one)");
    ForestCourts x = woods(4);
    x.spot(100, 100, 10);
    x.spot(200, 200, 20);
    x.spot(300, 300, 30);
    x.lodge(3, 300, 300, 0);
    beats(due, "one lodge", x, 30, -1, -1, 3);
    x.lodge(1, 100, 100, 0);
    beats(due, "two lodges", x, 40, 1, -1, 3);
    x.lodge(2, 200, 200, 0);
    beats(due, "the first two of three", x, 30, 1, 2, -1);
    x.lodge(0, 300, 300, 0);
    beats(due, "the first two of four", x, 40, 1, -1, 0);
    x.lodge(1, 200, 200, 400);
    beats(due, "each in the best way", x, 60, 1, 1, 0);
  }

  private static void mostWorth(Due due) {
    due.about(0, "of all ways in which each SPOT is in the one's BEAT, in the other's, or in none, the one with the most WORTH");
    ForestCourts x = woods(2);
    x.spot(10, 0, 3);
    x.spot(20, 0, 3);
    x.spot(0, 30, 5);
    x.lodge(0, 0, 0, 60);
    beats(due, "two of 3 rather than one of 5", x, 6, 0, 0, -1);
    x.spot(0, 30, 2);
    beats(due, "5 and 2 rather than two of 3", x, 7, -1, -1, 0, 0);
    x.lodge(1, 0, 0, 40);
    beats(due, "the second goes to the other two", x, 13, 1, 1, 0, 0);
    x.lodge(1, 0, 0, 39);
    beats(due, "the second to one of them", x, 10, 1, -1, 0, 0);
    ForestCourts y = woods(1);
    y.spot(10, 0, 1);
    y.spot(0, 10, 1000);
    y.lodge(0, 0, 0, 20);
    beats(due, "a later one of more worth", y, 1000, -1, 0);
  }

  private static void theFirstWay(Due due) {
    due.about(0, "of these the first, SPOT by SPOT: the first WARDEN, the second, none.");
    ForestCourts x = woods(2);
    x.spot(10, 10, 7);
    x.spot(30, 30, 7);
    x.spot(50, 50, 7);
    x.lodge(0, 30, 30, 80);
    x.lodge(1, 30, 30, 80);
    beats(due, "the first warden first", x, 21, 0, 0, 1);
    x.lodge(0, 30, 30, 79);
    x.lodge(1, 30, 30, 79);
    beats(due, "only the near spot", x, 7, -1, 0, -1);
    x.lodge(1, 30, 30, 80);
    beats(due, "the second the far one", x, 14, 1, 0, -1);
    ForestCourts y = woods(1);
    y.spot(20, 0, 7);
    y.spot(0, 20, 7);
    y.lodge(0, 0, 0, 40);
    beats(due, "the first spot rather than none", y, 7, 0, -1);
    ForestCourts z = woods(3);
    z.spot(5, 5, 7);
    z.spot(5, 5, 7);
    z.lodge(2, 5, 5, 7);
    z.lodge(1, 5, 5, 7);
    beats(due, "both could: the first by number", z, 14, 1, 1);
    z.lodge(1, 5, 6, 1);
    beats(due, "the first can't", z, 14, 2, 2);
  }

  private static void eight(Due due) {
    due.about(0, "of all ways in which each SPOT is in the one's BEAT, in the other's, or in none");
    ForestCourts x = woods(2);
    for (int k = 0; k < 8; k++) {
      x.spot(k * 100, 0, 1 + k);
    }
    x.lodge(0, 0, 0, 600);
    x.lodge(1, 700, 0, 600);
    beats(due, "each goes half the way", x, 36, 0, 0, 0, 0, 1, 1, 1, 1);
    x.lodge(1, 0, 0, 0);
    beats(due, "the second at the first's lodge", x, 10, 0, 0, 0, 0, -1, -1, -1, -1);
    x.lodge(0, 0, 0, 1400);
    beats(due, "all", x, 36, 0, 0, 0, 0, 0, 0, 0, 0);
    x.lodge(0, 0, 0, 1399);
    x.lodge(1, 700, 0, 0);
    beats(due, "all but the last", x, 36, 0, 0, 0, 0, 0, 0, 0, 1);
    x.lodge(0, 900, 900, 0);
    x.lodge(1, 0, 0, 1400);
    beats(due, "all by the second", x, 36, 1, 1, 1, 1, 1, 1, 1, 1);
    x.lodge(1, 0, 0, 1399);
    beats(due, "all but the last by the second", x, 28, 1, 1, 1, 1, 1, 1, 1, -1);
  }

  private static void askedSpotBySpot(Due due) {
    due.about(38, "The WARDEN in whose BEAT a SPOT is; NONE.");
    // each spot is asked for without asking for the worth ahead of it
    ForestCourts x = woods(2);
    x.spot(10, 10, 1);
    due.same("without lodges", x.beat(0), -1);
    x.lodge(1, 10, 10, 0);
    due.same("a lodge", x.beat(0), 1);
    x.spot(10, 10, 1);
    due.same("another spot", x.beat(1), 1);
    x.lodge(0, 10, 10, 0);
    due.same("another lodge", x.beat(1), 0);
    due.same("the first spot", x.beat(0), 0);
    x.lodge(0, 10, 11, 1);
    due.same("another lodge of the first", x.beat(0), 1);
  }
}
