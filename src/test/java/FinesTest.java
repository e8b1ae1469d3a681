/** What the third court asks for (promises 2, 20 and 28), who pays, what a warden gets, and the chest (42). */
public final class FinesTest {
  public static void main(String[] args) {
    Due due = new Due();
    fineAsItIsThen(due);
    nothingToPay(due);
    theAccusedPays(due);
    byNumber(due);
    halves(due);
    asFarAsCoinsGo(due);
    askedForAgain(due);
    deadPledges(due);
    shares(due);
    deadWarden(due);
    wardenPays(due);
    fullPurse(due);
    greatestFines(due);
    lodgedWarden(due);
    due.end();
  }

  private static void coins(Due due, String call, ForestCourts x, int chest, int... want) {
    for (int k = 0; k < want.length; k++) {
      due.same(call + ": coins of " + k, x.told(k, 1), want[k]);
    }
    due.same(call + ": chest", x.count(8), chest);
  }

  private static void fineAsItIsThen(Due due) {
    due.about(0, "what is OWED (at first the FINE as it is then) is asked for.");
    ForestCourts x = Due.wardened("bar cut;courts 1 1 10;fine cut=10;", 5, 0, 0, 0, 0);
    Due.present(x, 0, 1);
    x.wait(5);
    Due.text(x, 0, "fine cut=20;");
    x.wait(5);
    due.of("the fine as it is then", x, 0, 4, 0, 10, 15, 5, 0, 0, 0);
    Due.text(x, 0, "fine cut=100;allow cut;");
    due.fails("it is barred no longer", x.barred(0));
    x.wait(10);
    due.of("at first alone", x, 0, 4, 0, 10, 15, 5, 0, 0, 0);
  }

  private static void nothingToPay(Due due) {
    due.about(0, "PAID, if nothing is left; else OWED.");
    ForestCourts x = Due.wardened("bar cut;fine cut=many-1;courts 1 1 1;", 0, 0, 0, 0, 0);
    Due.present(x, 0, 1);
    Due.present(x, 0, 2);
    x.wait(3);
    due.of("a fine of 0", x, 0, 3, 0, 3, 0, 0, 0, 0, 0);
    due.of("a fine of 1", x, 1, 4, 0, 3, 1, 0, 0, 0, 0);
    coins(due, "nobody had any", x, 0, 0, 0, 0, 0, 0);
  }

  private static void theAccusedPays(Due due) {
    due.about(0, "ASKED FOR: the ACCUSED pays, as far as the COINS go");
    int[] purse = {69, 70, 71};
    int[][] want = {{3, 0, 3, 0, 69, 1, 0, 6}, {3, 0, 3, 0, 70, 0, 0, 7}, {3, 0, 3, 0, 70, 0, 0, 7}};
    for (int k = 0; k < 3; k++) {
      ForestCourts x = Due.wardened("bar cut;courts 1 1 1;", purse[k], 5, 5, 0, 0);
      Due.present(x, 0, 70);
      x.wait(3);
      due.of("with " + purse[k] + " coins", x, 0, want[k]);
      coins(due, "with " + purse[k] + " coins", x, k == 0 ? 64 : 63, Math.max(0, purse[k] - 70), k == 0 ? 4 : 5, 5, 0, k == 0 ? 6 : 7);
    }
  }

  private static void byNumber(Due due) {
    due.about(0, "all that were PRESENTED on earlier DAYS, by number");
    ForestCourts x = Due.wardened("bar cut;courts 1 1 1;", 100, 0, 0, 0, 0);
    Due.present(x, 0, 60);
    Due.present(x, 0, 50);
    Due.present(x, 0, 7);
    x.wait(3);
    due.of("the first is paid whole", x, 0, 3, 0, 3, 0, 60, 0, 0, 6);
    due.of("the second as far as the coins go", x, 1, 4, 0, 3, 10, 40, 0, 0, 4);
    due.of("nothing is left for the third", x, 2, 4, 0, 3, 7, 0, 0, 0, 0);
    coins(due, "three", x, 90, 0, 0, 0, 0, 10);
  }

  private static void halves(Due due) {
    due.about(0, "then each PLEDGE, the first, then the second, pays half of what was left, the first one the greater half");
    ForestCourts x = Due.wardened("bar cut;fine cut=many;courts 1 1 1;", 0, 1000, 1000, 0, 0);
    int[] fines = {1, 2, 3, 4, 5, 100, 101};
    int[] first = {1, 1, 2, 2, 3, 50, 51};
    int[] second = {0, 1, 1, 2, 2, 50, 50};
    for (int many : fines) {
      Due.present(x, 0, many);
    }
    x.wait(3);
    for (int k = 0; k < fines.length; k++) {
      due.of("a fine of " + fines[k], x, k, 3, 0, 3, 0, 0, first[k], second[k], first[k] / 10 + second[k] / 10);
    }
    coins(due, "all", x, 216 - 20, 0, 1000 - 110, 1000 - 106, 0, 20);
    ForestCourts y = Due.wardened("bar cut;courts 1 1 1;", 20, 1000, 1000, 0, 0);
    y.present(y.deed(0, 0, 500, 500, 0, 51), 0, 2, 1);
    y.wait(3);
    due.of("of what was left, and the first is who was named first", y, 0, 3, 0, 3, 0, 20, 16, 15, 2 + 1 + 1);
    coins(due, "of what was left", y, 47, 0, 985, 984, 0, 4);
  }

  private static void asFarAsCoinsGo(Due due) {
    due.about(0, "the first one the greater half, as far as the COINS go");
    // a fine of 101: 20 by the accused, of 81 the greater half is 41 and the lesser 40
    int[][] purses = {{20, 40, 1000}, {20, 41, 1000}, {20, 1000, 39}, {20, 1000, 40}, {20, 0, 0}, {0, 50, 50}};
    int[][] want = {{4, 1, 20, 40, 40}, {3, 0, 20, 41, 40}, {4, 1, 20, 41, 39}, {3, 0, 20, 41, 40}, {4, 81, 20, 0, 0}, {4, 1, 0, 50, 50}};
    for (int k = 0; k < purses.length; k++) {
      int[] p = purses[k];
      int[] w = want[k];
      ForestCourts x = Due.wardened("bar cut;fine cut=101;courts 1 1 1;", p[0], p[1], p[2], 0, 0);
      Due.present(x, 0, 1);
      x.wait(3);
      int got = w[2] / 10 + w[3] / 10 + w[4] / 10;
      due.of("purses " + k, x, 0, w[0], 0, 3, w[1], w[2], w[3], w[4], got);
      coins(due, "purses " + k, x, w[2] + w[3] + w[4] - got, p[0] - w[2], p[1] - w[3], p[2] - w[4], 0, got);
    }
  }

  private static void askedForAgain(Due due) {
    due.about(0, "or are OWED: what is OWED");
    ForestCourts x = Due.wardened("bar cut;fine cut=101;courts 1 1 10;", 20, 30, 1000, 0, 0);
    Due.present(x, 0, 1);
    x.wait(10);
    due.of("owed", x, 0, 4, 0, 10, 11, 20, 30, 40, 9);
    x.wait(9);
    due.of("day 19", x, 0, 4, 0, 10, 11, 20, 30, 40, 9);
    // of 11 the first can't pay 6, the second pays 5; so on: 3 of 6, 1 of 3, 1 of 2, none of 1
    int[] left = {6, 3, 2, 1, 1};
    int[] second = {45, 48, 49, 50, 50};
    for (int k = 0; k < left.length; k++) {
      x.wait(k == 0 ? 1 : 10);
      due.of("day " + (20 + 10 * k), x, 0, 4, 0, 10, left[k], 20, 30, second[k], 9);
    }
    coins(due, "at last", x, 91, 0, 0, 950, 0, 9);
    x.person(0, 1);
    x.heir(0, 5);
    x.die(0);
    x.wait(10);
    due.of("paid by an heir", x, 0, 3, 5, 70, 0, 21, 30, 50, 9);
    coins(due, "paid", x, 92, 0, 0, 950, 0, 9, 0);
  }

  private static void deadPledges(Due due) {
    due.about(0, "(for a PLEDGE who is DEAD the HEIR OF that one; none: nobody pays that half)");
    ForestCourts x = Due.wardened("bar cut;heirs free;courts 1 1 10;", 0, 100, 100, 40, 0);
    Due.present(x, 0, 101);
    x.heir(1, 3);
    x.die(1);
    x.die(2);
    x.wait(10);
    due.of("the first by an heir, the second by nobody", x, 0, 4, 0, 10, 61, 0, 40, 0, 4);
    coins(due, "the dead keep theirs", x, 36, 0, 100, 100, 0, 4);
    x.heir(2, 4);
    x.wait(10);
    // the lesser half of 61 is 30; the warden has 4, pays them, and gets none of them back, cut
    due.of("the second by an heir now", x, 0, 4, 0, 10, 57, 0, 40, 4, 4);
    coins(due, "the warden pays", x, 40, 0, 100, 100, 0, 0);
    ForestCourts y = Due.wardened("bar cut;courts 1 1 10;", 0, 100, 100, 70, 0);
    Due.present(y, 0, 100);
    y.heir(1, 2);
    y.heir(2, 3);
    y.die(1);
    y.wait(10);
    due.of("one for both", y, 0, 3, 0, 10, 0, 0, 50, 50, 10);
    coins(due, "one for both", y, 90, 0, 100, 0, 70, 10);
    ForestCourts z = Due.wardened("bar cut;courts 1 1 10;", 0, 100, 100, 70, 0);
    Due.present(z, 0, 100);
    z.heir(1, 2);
    z.heir(2, 3);
    z.heir(3, 1);
    z.die(1);
    z.die(2);
    z.wait(10);
    due.of("an heir's heir for both, as far as the coins go", z, 0, 4, 0, 10, 30, 0, 50, 20, 7);
    z.die(3);
    z.wait(10);
    due.of("nobody for both", z, 0, 4, 0, 10, 30, 0, 50, 20, 7);
  }

  private static void shares(Due due) {
    due.about(0, "Of each that is paid SHARE hundredths, cut, go to the WARDEN's PERSON (if that one lives), the rest to the CHEST.");
    int[] share = {0, 0, 1, 1, 1, 50, 50, 50, 49, 33, 50};
    int[] paid = {1, 10000, 99, 100, 199, 1, 2, 9999, 101, 100, 10000};
    int[] got = {0, 0, 0, 1, 1, 0, 1, 4999, 49, 33, 5000};
    for (int k = 0; k < share.length; k++) {
      String fine = paid[k] == 10000 ? "9999+1" : String.valueOf(paid[k]);
      ForestCourts x = Due.woods("bar cut;courts 1 1 1;fine cut=" + fine + ";", 10000, 0, 0, 5);
      x.warden(3, 1, share[k]);
      Due.present(x, 0, 1);
      x.wait(3);
      due.of(share[k] + " hundredths of " + paid[k], x, 0, 3, 0, 3, 0, paid[k], 0, 0, got[k]);
      coins(due, share[k] + " hundredths of " + paid[k], x, paid[k] - got[k], 10000 - paid[k], 0, 0, 5 + got[k]);
    }
    // of each of three payments: 19, 10 and 9 leave 1, 1 and 0 by a tenth, where 38 at once would leave 3
    ForestCourts y = Due.wardened("bar cut;courts 1 1 1;", 19, 10, 10, 0, 0);
    Due.present(y, 0, 38);
    y.wait(3);
    due.of("each is cut", y, 0, 3, 0, 3, 0, 19, 10, 9, 2);
    coins(due, "each is cut", y, 36, 0, 0, 1, 0, 2);
  }

  private static void deadWarden(Due due) {
    due.about(0, "go to the WARDEN's PERSON (if that one lives)");
    ForestCourts x = Due.wardened("bar cut;courts 1 1 10;", 50, 10, 0, 0, 7);
    x.heir(4, 3);
    Due.present(x, 0, 100);
    x.die(4);
    x.wait(10);
    due.of("no share", x, 0, 4, 0, 10, 40, 50, 10, 0, 0);
    coins(due, "nor for the warden's heir", x, 60, 0, 0, 0, 0, 7);
    ForestCourts y = Due.wardened("bar cut;courts 1 1 10;", 50, 30, 0, 0, 7);
    y.die(3);
    Due.present(y, 0, 60);
    y.wait(9);
    y.die(2);
    y.wait(1);
    due.of("others may be dead", y, 0, 4, 0, 10, 5, 50, 5, 0, 5);
  }

  private static void wardenPays(Due due) {
    due.about(0, "Of each that is paid");
    // the warden is a pledge: what comes to hand from the accused is there to pay with
    ForestCourts x = Due.wardened("bar cut;courts 1 1 10;", 50, 0, 0, 0, 0);
    x.present(x.deed(0, 0, 500, 500, 0, 100), 0, 4, 1);
    x.wait(10);
    due.of("the warden pays of the share", x, 0, 4, 0, 10, 45, 50, 5, 0, 5);
    coins(due, "the warden pays", x, 50, 0, 0, 0, 0, 0);
    // the warden is the accused, and gets a share of what is paid
    ForestCourts y = Due.wardened("bar cut;courts 1 1 10;", 0, 0, 0, 0, 50);
    Due.present(y, 4, 50);
    y.wait(10);
    due.of("the warden is the accused", y, 0, 3, 4, 10, 0, 50, 0, 0, 5);
    coins(due, "the warden is the accused", y, 45, 0, 0, 0, 0, 5);
  }

  private static void fullPurse(Due due) {
    due.about(0, "COINS (from 0 to 1,000,000; what would be above is lost)");
    int[] purse = {999989, 999990, 999991, 1000000};
    for (int coins : purse) {
      ForestCourts x = Due.wardened("bar cut;courts 1 1 10;", 1000, 0, 0, 0, coins);
      Due.present(x, 0, 100);
      x.wait(10);
      due.of("the share", x, 0, 3, 0, 10, 0, 100, 0, 0, 10);
      coins(due, "what is above is lost", x, 90, 900, 0, 0, 0, Math.min(1000000, coins + 10));
    }
  }

  private static void greatestFines(Due due) {
    due.about(0, "the rest to the CHEST.");
    ForestCourts x = Due.woods("bar cut;fine cut=9999+1;courts 1 1 1;", 1000000, 1000000, 1000000, 0);
    x.warden(3, 1, 50);
    for (int k = 0; k < 40; k++) {
      Due.present(x, 0, 1);
    }
    x.wait(3);
    due.of("the last of forty", x, 39, 3, 0, 3, 0, 10000, 0, 0, 5000);
    coins(due, "forty times 10,000", x, 200000, 600000, 1000000, 1000000, 200000);
  }

  private static void lodgedWarden(Due due) {
    due.about(28, "7 what the WARDEN's PERSON got.");
    ForestCourts x = Due.wardened("bar cut;courts 1 1 1;", 1000, 0, 0, 0, 0);
    x.lodge(0, 50, 60, 70);
    x.warden(3, 9, 50);
    Due.present(x, 0, 100);
    x.present(x.deed(0, 0, 500, 500, 0, 100), 1, 1, 2);
    x.wait(3);
    due.of("the share is as it was", x, 0, 3, 0, 3, 0, 100, 0, 0, 10);
    due.of("another warden's", x, 1, 3, 0, 3, 0, 100, 0, 0, 50);
    coins(due, "each has his own", x, 140, 800, 0, 0, 50, 10);
  }
}
