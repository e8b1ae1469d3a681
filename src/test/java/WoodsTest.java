/** Promises 39 to 41 (wood, take, stock). */
public final class WoodsTest {
  public static void main(String[] args) {
    Due due = new Due();
    woods(due);
    noWood(due);
    sixWoods(due);
    takings(due);
    noTaking(due);
    hundredTakings(due);
    noStock(due);
    aheadOfTheWood(due);
    fiftieth(due);
    third(due);
    tenthAndFive(due);
    lessWhatIsTaken(due);
    leastOfAll(due);
    ofItsOwn(due);
    knownOnADay(due);
    mostOfAll(due);
    due.end();
  }

  private static void woods(Due due) {
    due.about(0, "WOODS, numbered from 0 on, 6 at most, from a YEAR on: OAKS and DEER (0 to 100,000 each) at its beginning.");
    due.about(39, "A WOOD from a YEAR (0 to 277) on: its number");
    ForestCourts x = new ForestCourts();
    due.same("the least of all", x.wood(0, 0, 0), 0);
    due.same("the greatest of all", x.wood(277, 100000, 100000), 1);
    due.same("oaks alone", x.wood(5, 100000, 0), 2);
    due.same("woods", x.count(11), 3);
    due.same("no oaks", x.stock(0, 0, 0, 0), 0);
    due.same("no deer", x.stock(0, 1, 277, 0), 0);
    due.same("a wood of the last year", x.stock(1, 0, 277, 0), 102000);
    due.same("its deer", x.stock(1, 1, 277, 0), 10205);
    due.same("oaks alone", x.stock(2, 1, 5, 0), 0);
  }

  private static void noWood(Due due) {
    due.about(39, "IllegalArgumentException: YEAR, OAKS, DEER.");
    ForestCourts x = new ForestCourts();
    due.only("year", 0, 277, n -> x.wood(n, 5, 5));
    due.only("oaks", 0, 100000, n -> x.wood(5, n, 5));
    due.only("deer", 0, 100000, n -> x.wood(5, 5, n));
    due.same("no wood", x.count(11), 0);
  }

  private static void sixWoods(Due due) {
    due.about(39, "-1: there are 6.");
    ForestCourts x = new ForestCourts();
    for (int k = 0; k < 6; k++) {
      due.same("wood " + k, x.wood(k, k, k), k);
    }
    due.same("a seventh", x.wood(0, 0, 0), -1);
    due.argument("a seventh of no year", () -> x.wood(278, 0, 0));
    due.same("6 are there", x.count(11), 6);
    due.same("the last of them", x.stock(5, 0, 5, 0), 5);
  }

  private static void takings(Due due) {
    due.about(0, "TAKINGS, 100 at most: of a WOOD, OAKS (0) or DEER (1), in a YEAR, so many, told on a DAY.");
    due.about(40, "A TAKING, told today: how many there are");
    ForestCourts x = new ForestCourts();
    x.wood(10, 100000, 1000);
    x.wood(0, 100000, 1000);
    due.same("the least of all", x.take(0, 0, 10, 1), 1);
    due.same("the greatest of all", x.take(0, 1, 277, 100000), 2);
    due.same("of another wood", x.take(1, 0, 0, 5), 3);
    due.same("takings", x.count(12), 3);
  }

  private static void noTaking(Due due) {
    due.about(40, "IndexOutOfBoundsException: no such WOOD (so below)");
    ForestCourts x = new ForestCourts();
    x.wood(10, 100, 100);
    x.wood(277, 100, 100);
    due.numbered("wood", 2, n -> x.take(n, 0, 277, 1));
    due.numbered("wood, and no kind", 2, n -> x.take(n, 2, 277, 1));
    due.about(40, "IllegalArgumentException: another kind, the YEAR is ahead of the WOOD's or above 277, or so many are not 1 to 100,000.");
    due.only("kind", 0, 1, n -> x.take(0, n, 10, 1));
    due.only("year", 10, 277, n -> x.take(0, 0, n, 1));
    due.only("year of a late one", 277, 277, n -> x.take(1, 0, n, 1));
    due.only("so many", 1, 100000, n -> x.take(0, 0, 10, n));
    due.same("no taking", x.count(12), 0);
    due.same("none is taken", x.stock(0, 0, 10, 0), 102);
  }

  private static void hundredTakings(Due due) {
    due.about(40, "-1: there are 100.");
    ForestCourts x = new ForestCourts();
    x.wood(10, 100000, 0);
    x.wood(10, 100000, 0);
    for (int k = 1; k <= 100; k++) {
      due.same("taking " + k, x.take(k % 2, 0, 10, 1), k);
    }
    due.same("a 101st", x.take(0, 0, 10, 50), -1);
    due.argument("a 101st of no kind", () -> x.take(0, 2, 10, 1));
    due.argument("a 101st of no year", () -> x.take(0, 0, 9, 1));
    due.argument("a 101st of none", () -> x.take(0, 0, 10, 0));
    due.index("a 101st of no wood", () -> x.take(2, 0, 10, 1));
    due.same("100 are there", x.count(12), 100);
    due.same("fifty of each", x.stock(0, 0, 10, 0), 99950 + 1999);
    due.same("fifty of each", x.stock(1, 0, 10, 0), 99950 + 1999);
  }

  private static void noStock(Due due) {
    due.about(41, "IllegalArgumentException: another kind, YEAR (0 to 277), or the DAY.");
    ForestCourts x = new ForestCourts();
    x.wood(10, 100, 100);
    due.only("kind", 0, 1, n -> x.stock(0, n, 10, 0));
    due.only("year", 0, 277, n -> x.stock(0, 0, n, 0));
    due.only("day", 0, 100000, n -> x.stock(0, 0, 10, n));
    due.argument("no kind, ahead of the wood", () -> x.stock(0, 2, 9, 0));
    due.argument("no day, ahead of the wood", () -> x.stock(0, 0, 9, -1));
    due.about(40, "IndexOutOfBoundsException: no such WOOD (so below)");
    due.numbered("wood", 1, n -> x.stock(n, 0, 10, 0));
    due.numbered("wood, and no kind", 1, n -> x.stock(n, 2, 10, 0));
  }

  private static void aheadOfTheWood(Due due) {
    due.about(41, "NONE: the YEAR is ahead of the WOOD's.");
    ForestCourts x = new ForestCourts();
    x.wood(10, 100, 90);
    x.wood(277, 100, 90);
    x.wood(0, 100, 90);
    int[][] want = {{-1, -1, -1, 102, 10 + 5}, {-1, -1, -1, -1, -1}, {102, 104, -2, -2, -2}};
    int[] years = {0, 1, 9, 10, 10};
    for (int wood = 0; wood < 3; wood++) {
      for (int k = 0; k < 5; k++) {
        if (want[wood][k] != -2) {
          due.same("wood " + wood + " in " + years[k], x.stock(wood, k == 4 ? 1 : 0, years[k], 0), want[wood][k]);
        }
      }
    }
    due.same("ahead of a late one", x.stock(1, 0, 276, 0), -1);
    due.same("deer of it", x.stock(1, 1, 276, 0), -1);
    due.same("in its year", x.stock(1, 0, 277, 0), 102);
  }

  /** The stock at the end of the first year. */
  private static int first(int kind, int oaks, int deer) {
    ForestCourts x = new ForestCourts();
    x.wood(0, oaks, deer);
    return x.stock(0, kind, 0, 0);
  }

  private static void fiftieth(Due due) {
    due.about(0, "STOCK of a WOOD at the end of a YEAR, as KNOWN on a DAY: YEAR by YEAR from its first on: OAKS less all that is KNOWN "
        + "to be taken in it (0 at least), then a fiftieth of them, cut, more");
    int[] oaks = {0, 1, 49, 50, 51, 99, 100, 149, 150, 100000};
    int[] want = {0, 1, 49, 51, 52, 100, 102, 151, 153, 102000};
    for (int k = 0; k < oaks.length; k++) {
      due.same("of " + oaks[k], first(0, oaks[k], 0), want[k]);
    }
    ForestCourts x = new ForestCourts();
    x.wood(3, 149, 10);
    int[] then = {151, 154, 157, 160};
    for (int k = 0; k < then.length; k++) {
      due.same("year " + (3 + k), x.stock(0, 0, 3 + k, 0), then[k]);
    }
  }

  private static void third(Due due) {
    due.about(0, "DEER likewise less what is KNOWN to be taken, then a third, cut, more");
    int[] deer = {0, 1, 2, 3, 4, 5, 6, 299, 300, 7000};
    int[] want = {0, 1, 2, 4, 5, 6, 8, 398, 400, 9333};
    for (int k = 0; k < deer.length; k++) {
      due.same("of " + deer[k], first(1, 100000, deer[k]), want[k]);
    }
  }

  private static void tenthAndFive(Due due) {
    due.about(0, "then not more than a tenth, cut, of the OAKS (as they are then) and 5.");
    // 98 and 99 oaks are 99 and 100 at the end of the year
    int[] oaks = {0, 1, 9, 10, 19, 49, 50, 98, 99, 100, 999};
    int[] want = {5, 5, 5, 6, 6, 9, 10, 14, 15, 15, 106};
    for (int k = 0; k < oaks.length; k++) {
      due.same("of many, by " + oaks[k] + " oaks", first(1, oaks[k], 100000), want[k]);
    }
    due.same("just so many", first(1, 100, 12), 15);
    due.same("as a third more makes", first(1, 100, 11), 14);
    ForestCourts x = new ForestCourts();
    x.wood(0, 149, 10);
    int[] then = {13, 17, 20, 21};
    for (int k = 0; k < then.length; k++) {
      due.same("year " + k, x.stock(0, 1, k, 0), then[k]);
    }
  }

  private static void lessWhatIsTaken(Due due) {
    due.about(0, "OAKS less all that is KNOWN to be taken in it");
    ForestCourts x = new ForestCourts();
    x.wood(0, 1000, 60);
    x.take(0, 0, 1, 500);
    x.take(0, 0, 1, 20);
    x.take(0, 1, 1, 40);
    due.same("ahead of it", x.stock(0, 0, 0, 0), 1020);
    due.same("500 are left, and ten come", x.stock(0, 0, 1, 0), 510);
    due.same("520 a year on", x.stock(0, 0, 2, 0), 520);
    due.same("deer ahead of it", x.stock(0, 1, 0, 0), 80);
    due.same("40 are left, and 13 come", x.stock(0, 1, 1, 0), 53);
    due.same("a tenth of 520, and 5", x.stock(0, 1, 2, 0), 57);
    x.take(0, 0, 0, 1000);
    due.same("taken earlier, told later", x.stock(0, 0, 0, 0), 0);
    due.same("and on", x.stock(0, 0, 2, 0), 0);
    due.same("five deer", x.stock(0, 1, 0, 0), 5);
  }

  private static void leastOfAll(Due due) {
    due.about(0, "(0 at least)");
    int[] taken = {99, 100, 101, 100000};
    int[] oaks = {1, 0, 0, 0};
    for (int k = 0; k < taken.length; k++) {
      ForestCourts x = new ForestCourts();
      x.wood(0, 100, 100);
      x.take(0, 0, 0, taken[k]);
      due.same(taken[k] + " of 100 oaks", x.stock(0, 0, 0, 0), oaks[k]);
      due.same("a year on", x.stock(0, 0, 1, 0), oaks[k]);
      due.same("deer", x.stock(0, 1, 0, 0), 5);
      x.take(0, 1, 0, taken[k]);
      due.same(taken[k] + " of 100 deer", x.stock(0, 1, 0, 0), oaks[k]);
      due.same("a hundred years on", x.stock(0, 1, 100, 0), oaks[k]);
    }
    ForestCourts x = new ForestCourts();
    x.wood(0, 100000, 100000);
    for (int k = 0; k < 50; k++) {
      x.take(0, 0, 0, 100000);
      x.take(0, 1, 0, 100000);
    }
    due.same("fifty times 100,000", x.stock(0, 0, 0, 0), 0);
    due.same("of deer", x.stock(0, 1, 0, 0), 0);
    due.same("nothing comes of nothing", x.stock(0, 0, 277, 0), 0);
  }

  private static void ofItsOwn(Due due) {
    due.about(0, "of a WOOD, OAKS (0) or DEER (1), in a YEAR, so many");
    ForestCourts x = new ForestCourts();
    x.wood(0, 1000, 30);
    x.wood(0, 1000, 30);
    x.take(1, 0, 1, 100);
    x.take(1, 1, 2, 10);
    due.same("another wood's oaks", x.stock(0, 0, 1, 0), 1040);
    due.same("another wood's deer", x.stock(0, 1, 2, 0), 70);
    due.same("oaks taken", x.stock(1, 0, 1, 0), 938);
    due.same("deer are not", x.stock(1, 1, 1, 0), 53);
    due.same("deer taken", x.stock(1, 1, 2, 0), 57);
    due.same("oaks are not", x.stock(1, 0, 2, 0), 956);
  }

  private static void knownOnADay(Due due) {
    due.about(41, "STOCK (of OAKS 0, DEER 1) at the end of a YEAR, as KNOWN on a DAY");
    ForestCourts x = new ForestCourts();
    x.wood(0, 1000, 0);
    x.take(0, 0, 3, 100);
    x.wait(5);
    x.take(0, 0, 200, 1000);
    x.wait(5);
    x.take(0, 0, 0, 500);
    due.same("not told", x.stock(0, 0, 0, 9), 1020);
    due.same("told on that day", x.stock(0, 0, 0, 10), 510);
    due.same("as known later", x.stock(0, 0, 0, 11), 510);
    due.same("as known on the last day", x.stock(0, 0, 0, 100000), 510);
    due.same("what was told on the first day", x.stock(0, 0, 3, 0), 979);
    int without = x.stock(0, 0, 200, 4);
    int with = x.stock(0, 0, 200, 5);
    due.holds("1000 less, then a fiftieth more: " + without + ", " + with, without - with == 1020);
    due.same("the year ahead of it", x.stock(0, 0, 199, 4), x.stock(0, 0, 199, 5));
  }

  private static void mostOfAll(Due due) {
    due.about(0, "(Both 1,000,000 at most.)");
    ForestCourts x = new ForestCourts();
    x.wood(0, 100000, 100000);
    due.same("oaks", x.stock(0, 0, 277, 0), 1000000);
    due.same("deer", x.stock(0, 1, 277, 0), 100005);
    due.same("deer at first", x.stock(0, 1, 0, 0), 10205);
    x.take(0, 0, 277, 1);
    due.same("one less, then at most so many", x.stock(0, 0, 277, 0), 1000000);
    x.take(0, 0, 276, 100000);
    x.take(0, 0, 277, 100000);
    due.same("900,000 of 1,000,000, and a fiftieth: 918,000; less 100,001, and a fiftieth", x.stock(0, 0, 277, 0), 834358);
    // 98,039 oaks are 1,000,000 at the end, with a fiftieth of 980,392 more: one below is not
    ForestCourts y = new ForestCourts();
    y.wood(0, 100000, 0);
    y.take(0, 0, 200, 19607);
    due.same("980,393, and 19,607", y.stock(0, 0, 200, 0), 1000000);
    y.take(0, 0, 200, 1);
    due.same("980,392, and 19,607", y.stock(0, 0, 200, 0), 999999);
  }
}
