/** Promises 21 (warden), 26 to 28 (present, proof, of), and what days do (2) to coins (20) and the chest (42). */
public final class CourtsTest {
  public static void main(String[] args) {
    Due due = new Due();
    wardens(due);
    presenting(due);
    proofs(due);
    throughThreeCourts(due);
    plainCourts(due);
    oneDayForAll(due);
    doubtful(due);
    paying(due);
    halves(due);
    deadAccused(due);
    deadPledges(due);
    deadWarden(due);
    wardenPays(due);
    fullPurse(due);
    changingCourts(due);
    newCourts(due);
    shareAndLodge(due);
    fineOfThatDay(due);
    due.end();
  }

  /** A square ring, people with so many coins, all of rank 0, person 4 a warden of weight 5 and share 10. */
  private static ForestCourts woods(String text, int... coins) {
    ForestCourts x = new ForestCourts();
    Due.square(x, 100, 900);
    Due.text(x, 0, text);
    for (int c : coins) {
      x.person(0, c);
    }
    x.warden(4, 5, 10);
    return x;
  }

  private static int present(ForestCourts x, int person, int many) {
    return x.present(x.deed(person, 0, 500, 500, x.count(0), many), 0, 1, 2);
  }

  private static void of(Due due, String call, ForestCourts x, int p, int... want) {
    for (int what = 0; what < want.length; what++) {
      due.same(call + ": of(" + p + ", " + what + ")", x.of(p, what), want[what]);
    }
  }

  private static void wardens(Due due) {
    ForestCourts x = new ForestCourts();
    x.person(0, 0);
    due.index("person 1", () -> x.warden(1, 1, 0));
    due.index("person -1", () -> x.warden(-1, 1, 0));
    due.index("person 1 of no weight", () -> x.warden(1, 0, 0));
    due.argument("weight 0", () -> x.warden(0, 0, 0));
    due.argument("weight 10", () -> x.warden(0, 10, 0));
    due.argument("share -1", () -> x.warden(0, 1, -1));
    due.argument("share 51", () -> x.warden(0, 1, 51));
    for (int k = 0; k < 6; k++) {
      due.same("warden " + k, x.warden(0, k == 0 ? 1 : 9, k == 0 ? 0 : 50), k);
    }
    due.same("a seventh", x.warden(0, 1, 1), -1);
    due.argument("a seventh of no share", () -> x.warden(0, 1, 51));
    due.same("6 are there", x.count(5), 6);
  }

  private static void presenting(Due due) {
    ForestCourts x = woods("bar cut;", 0, 0, 0, 0, 0);
    x.deed(0, 0, 500, 500, 0, 1);
    x.deed(0, 1, 500, 500, 0, 1);
    x.deed(0, 0, 5, 5, 0, 1);
    due.index("deed 3", () -> x.present(3, 0, 1, 2));
    due.index("deed -1", () -> x.present(-1, 0, 1, 2));
    due.index("warden 1", () -> x.present(0, 1, 1, 2));
    due.index("warden -1", () -> x.present(0, -1, 1, 2));
    due.index("person 5", () -> x.present(0, 0, 5, 2));
    due.index("person -1", () -> x.present(0, 0, 1, -1));
    due.same("no word", x.present(1, 0, 1, 2), -3);
    due.same("out", x.present(2, 0, 1, 2), -3);
    due.same("no word, and one pledge twice", x.present(1, 0, 1, 1), -3);
    due.same("both are one", x.present(0, 0, 1, 1), -4);
    due.same("the deed's person first", x.present(0, 0, 0, 1), -4);
    due.same("the deed's person second", x.present(0, 0, 1, 0), -4);
    x.die(3);
    due.same("a dead one first", x.present(0, 0, 3, 1), -4);
    due.same("a dead one second", x.present(0, 0, 1, 3), -4);
    due.same("nothing yet", x.count(7), 0);
    due.same("a warden may be a pledge", x.present(0, 0, 4, 1), 0);
    due.same("once", x.present(0, 0, 1, 2), -2);
    due.same("once, and one pledge twice", x.present(0, 0, 1, 1), -2);
    of(due, "new", x, 0, 0, 0, 0, -1, 0, 0, 0, 0);
    due.index("presentment 1", () -> x.of(1, 0));
    due.index("presentment -1", () -> x.of(-1, 0));
    due.argument("what -1", () -> x.of(0, -1));
    due.argument("what 8", () -> x.of(0, 8));
    for (int k = 1; k < 40; k++) {
      due.same("presentment " + k, present(x, 0, 1), k);
    }
    due.same("a 41st", present(x, 0, 1), -1);
    due.same("a 41st of one presented", x.present(0, 0, 1, 2), -1);
    due.same("40 are there", x.count(7), 40);
  }

  private static void proofs(Due due) {
    ForestCourts x = woods("bar cut;courts 1 3 1000;", 0, 0, 0, 0, 0);
    present(x, 0, 1);
    present(x, 0, 1);
    present(x, 0, 1);
    due.index("presentment 3", () -> x.proof(3, 0));
    due.index("presentment 3 and no proof", () -> x.proof(3, 10));
    due.argument("10", () -> x.proof(0, 10));
    due.argument("-10", () -> x.proof(0, -10));
    due.same("a proof", x.proof(0, -9), -9);
    due.same("their sum", x.proof(0, 4), -5);
    due.same("their sum", x.proof(1, -4), -4);
    due.same("their sum", x.proof(2, 9), 9);
    due.same("their sum", x.proof(2, 9), 18);
    x.wait(1);
    of(due, "weight and proofs are 0", x, 0, 5, 0, 1, -1);
    of(due, "weight and proofs are 1", x, 1, 1, 0, 1, -1);
    due.same("one that is quashed", x.proof(0, 9), -1000);
    due.argument("10 of one that is quashed", () -> x.proof(0, 10));
    due.same("one that is attached", x.proof(1, -9), -13);
    x.wait(2);
    of(due, "found, as it is not doubtful", x, 1, 2, 0, 3, -1);
    due.same("one that is found", x.proof(1, 9), -1000);
  }

  private static void throughThreeCourts(Due due) {
    ForestCourts x = woods("bar cut;courts 10 15 20;", 100, 0, 0, 0, 0);
    x.wait(10);
    present(x, 0, 30);
    of(due, "presented", x, 0, 0, 0, 10);
    x.wait(9);
    of(due, "day 19", x, 0, 0, 0, 10);
    x.wait(1);
    of(due, "attached", x, 0, 1, 0, 20, -1);
    x.wait(10);
    of(due, "found", x, 0, 2, 0, 30, -1);
    x.wait(9);
    of(due, "day 39", x, 0, 2, 0, 30, -1);
    x.wait(1);
    of(due, "paid", x, 0, 3, 0, 40, 0, 30, 0, 0, 3);
    due.same("coins", x.told(0, 1), 70);
    due.same("the warden's", x.told(4, 1), 3);
    due.same("the chest", x.count(8), 27);
    x.wait(200);
    of(due, "it stays so", x, 0, 3, 0, 40, 0, 30, 0, 0, 3);
  }

  private static void plainCourts(Due due) {
    ForestCourts x = woods("bar cut;", 100, 0, 0, 0, 0);
    present(x, 0, 30);
    x.wait(39);
    of(due, "day 39", x, 0, 0, 0, 0);
    x.wait(1);
    of(due, "day 40", x, 0, 1, 0, 40);
    x.wait(79);
    of(due, "day 119", x, 0, 1, 0, 40);
    x.wait(1);
    of(due, "day 120", x, 0, 2, 0, 120);
    x.wait(959);
    of(due, "day 1079", x, 0, 2, 0, 120);
    x.wait(1);
    of(due, "day 1080", x, 0, 3, 0, 1080);
  }

  private static void oneDayForAll(Due due) {
    ForestCourts x = woods("bar cut;courts 10 10 10;", 100, 0, 0, 0, 0);
    x.wait(5);
    present(x, 0, 30);
    x.wait(5);
    of(due, "the first court only", x, 0, 1, 0, 10);
    x.wait(10);
    of(due, "the second court only", x, 0, 2, 0, 20);
    x.wait(10);
    of(due, "the third court", x, 0, 3, 0, 30);
  }

  private static void doubtful(Due due) {
    ForestCourts x = woods("bar cut;courts 1 1 100;", 100, 0, 0, 0, 0);
    for (int k = 0; k < 4; k++) {
      x.present(x.deed(0, 0, k == 3 ? 110 : 100, 500, 0, 1), 0, 1, 2);
    }
    x.proof(1, 1);
    x.proof(2, 1);
    x.proof(2, -1);
    x.wait(1);
    x.strip(10);
    x.wait(1);
    of(due, "without proofs", x, 0, 5, 0, 2, -1);
    of(due, "with a proof", x, 1, 2, 0, 2, -1);
    of(due, "with proofs of 0", x, 2, 5, 0, 2, -1);
    of(due, "doubtful by the strip now", x, 3, 5, 0, 2, -1);
  }

  private static void paying(Due due) {
    // a fine of 101: 20 by the accused, of 81 the greater half is 41 and the lesser 40
    ForestCourts x = woods("bar cut;fine cut=101;courts 1 1 10;", 20, 30, 1000, 0, 0);
    present(x, 0, 1);
    x.wait(10);
    of(due, "owed", x, 0, 4, 0, 10, 11, 20, 30, 40, 2 + 3 + 4);
    due.same("the accused", x.told(0, 1), 0);
    due.same("the first pledge", x.told(1, 1), 0);
    due.same("the second pledge", x.told(2, 1), 960);
    due.same("the warden", x.told(4, 1), 9);
    due.same("the chest", x.count(8), 81);
    x.wait(9);
    of(due, "day 19", x, 0, 4, 0, 10, 11, 20, 30, 40, 9);
    x.wait(1);
    // of 11 the first can't pay 6, the second pays 5
    of(due, "day 20", x, 0, 4, 0, 10, 6, 20, 30, 45, 9);
    x.wait(10);
    of(due, "day 30", x, 0, 4, 0, 10, 3, 20, 30, 48, 9);
    x.wait(10);
    of(due, "day 40: of 3 the second pays 1", x, 0, 4, 0, 10, 2, 20, 30, 49, 9);
    x.wait(10);
    of(due, "day 50: of 2 the second pays 1", x, 0, 4, 0, 10, 1, 20, 30, 50, 9);
    x.wait(10);
    of(due, "day 60: of 1 the second pays none", x, 0, 4, 0, 10, 1, 20, 30, 50, 9);
    due.same("the second pledge", x.told(2, 1), 950);
    due.same("the chest", x.count(8), 91);
  }

  private static void halves(Due due) {
    ForestCourts x = woods("bar cut;fine cut=many-1;courts 1 1 1;", 0, 100, 100, 0, 0);
    present(x, 0, 1);
    present(x, 0, 2);
    present(x, 0, 3);
    present(x, 0, 4);
    x.wait(3);
    of(due, "nothing to pay", x, 0, 3, 0, 3, 0, 0, 0, 0, 0);
    of(due, "1", x, 1, 3, 0, 3, 0, 0, 1, 0, 0);
    of(due, "2", x, 2, 3, 0, 3, 0, 0, 1, 1, 0);
    of(due, "3", x, 3, 3, 0, 3, 0, 0, 2, 1, 0);
    due.same("the chest", x.count(8), 6);
  }

  private static void deadAccused(Due due) {
    ForestCourts x = woods("bar cut;courts 10 20 30;", 50, 0, 0, 60, 0);
    x.heir(0, 3);
    present(x, 0, 70);
    x.wait(3);
    x.die(0);
    of(due, "until a court", x, 0, 0, 0, 0);
    x.wait(7);
    of(due, "the heir", x, 0, 1, 3, 10);
    x.heir(0, 1);
    x.wait(20);
    of(due, "who stays it; found on day 20, asked on 30", x, 0, 4, 3, 30, 10, 60, 0, 0, 6);
    due.same("the dead one's coins", x.told(0, 1), 50);
    x.die(3);
    x.wait(30);
    of(due, "no heir of the heir", x, 0, 6, 3, 60, -1, 60, 0, 0, 6);
    x.heir(3, 1);
    x.wait(30);
    of(due, "dead for good", x, 0, 6, 3, 60, -1, 60, 0, 0, 6);

    ForestCourts y = woods("bar cut;courts 10 20 30;heirs free;", 50, 0, 0, 60, 0);
    y.heir(0, 3);
    present(y, 0, 70);
    y.die(0);
    y.proof(0, -9);
    y.wait(10);
    of(due, "heirs are free", y, 0, 6, 0, 10, -1, 0, 0, 0, 0);

    ForestCourts z = woods("bar cut;courts 10 20 30;", 50, 0, 0, 60, 0);
    Due.text(z, 15, "heirs free;");
    Due.text(z, 25, "heirs owe;");
    z.heir(0, 3);
    present(z, 0, 70);
    z.wait(10);
    z.die(0);
    z.wait(9);
    of(due, "until the second court", z, 0, 1, 0, 10);
    z.wait(1);
    of(due, "free on the second court's day", z, 0, 6, 0, 20);
  }

  private static void deadPledges(Due due) {
    ForestCourts x = woods("bar cut;heirs free;courts 1 1 10;", 0, 100, 100, 40, 0);
    present(x, 0, 101);
    x.heir(1, 3);
    x.die(1);
    x.die(2);
    x.wait(10);
    of(due, "the first by an heir, the second by nobody", x, 0, 4, 0, 10, 61, 0, 40, 0, 4);
    due.same("the heir", x.told(3, 1), 0);
    due.same("the dead", x.told(1, 1), 100);
    x.heir(2, 4);
    x.wait(10);
    // the lesser half of 61 is 30; the warden has 4, pays them, and gets none of them back, cut
    of(due, "the second by an heir now", x, 0, 4, 0, 10, 57, 0, 40, 4, 4);
    due.same("the warden", x.told(4, 1), 0);
  }

  private static void deadWarden(Due due) {
    ForestCourts x = woods("bar cut;courts 1 1 10;", 50, 0, 0, 0, 7);
    x.heir(4, 3);
    present(x, 0, 100);
    x.die(4);
    x.wait(10);
    of(due, "no share", x, 0, 4, 0, 10, 50, 50, 0, 0, 0);
    due.same("the warden", x.told(4, 1), 7);
    due.same("the warden's heir", x.told(3, 1), 0);
    due.same("the chest", x.count(8), 50);
  }

  private static void wardenPays(Due due) {
    // the warden is a pledge: what comes to hand from the accused is there to pay with
    ForestCourts x = woods("bar cut;courts 1 1 10;", 50, 0, 0, 0, 0);
    x.present(x.deed(0, 0, 500, 500, 0, 100), 0, 4, 1);
    x.wait(10);
    of(due, "the warden pays of the share", x, 0, 4, 0, 10, 45, 50, 5, 0, 5);
    due.same("the warden", x.told(4, 1), 0);
    due.same("the chest", x.count(8), 50);
  }

  private static void fullPurse(Due due) {
    ForestCourts x = woods("bar cut;courts 1 1 10;", 1000, 0, 0, 0, 999999);
    present(x, 0, 100);
    x.wait(10);
    of(due, "the share", x, 0, 3, 0, 10, 0, 100, 0, 0, 10);
    due.same("what is above is lost", x.told(4, 1), 1000000);
    due.same("the chest", x.count(8), 90);
  }

  private static void changingCourts(Due due) {
    ForestCourts x = woods("bar cut;courts 7 4000 4000;", 1000, 0, 0, 0, 0);
    Due.text(x, 7, "courts 5 4000 4000;");
    Due.text(x, 13, "undo 1;");
    present(x, 0, 1);
    x.wait(7);
    of(due, "not on day 7, as the courts of that day are others", x, 0, 0, 0, 0);
    x.wait(3);
    of(due, "on day 10", x, 0, 1, 0, 10);
    present(x, 0, 1);
    x.wait(4);
    of(due, "on day 14, as the others are undone", x, 1, 1, 0, 14);
  }

  private static void newCourts(Due due) {
    ForestCourts x = new ForestCourts();
    Due.square(x, 100, 900);
    due.same("courts that begin later", Due.text(x, 6, "bar cut;courts 3 4000 4000;"), 0);
    Due.text(x, 0, "bar cut;courts 7 4000 4000;undo 0;");
    Due.text(x, 5, "undo 1;");
    for (int k = 0; k < 5; k++) {
      x.person(0, 0);
    }
    x.warden(4, 5, 10);
    present(x, 0, 1);
    x.wait(8);
    of(due, "on day 6, the first of the later courts", x, 0, 1, 0, 6);
    present(x, 0, 1);
    x.wait(2);
    of(due, "on day 9", x, 1, 1, 0, 9);
    present(x, 0, 1);
    Due.text(x, 0, "courts 11 4000 4000;");
    x.wait(1);
    of(due, "on day 11, by a text that was told on day 10", x, 2, 1, 0, 11);
  }

  private static void shareAndLodge(Due due) {
    ForestCourts x = woods("bar cut;courts 1 1 1;", 1000, 0, 0, 0, 0);
    x.lodge(0, 50, 60, 70);
    present(x, 0, 100);
    x.wait(3);
    of(due, "the share is as it was", x, 0, 3, 0, 3, 0, 100, 0, 0, 10);
  }

  private static void fineOfThatDay(Due due) {
    ForestCourts x = woods("bar cut;courts 1 1 10;fine cut=10;", 5, 0, 0, 0, 0);
    present(x, 0, 1);
    x.wait(5);
    Due.text(x, 0, "fine cut=20;");
    x.wait(5);
    of(due, "the fine as it is then", x, 0, 4, 0, 10, 15, 5, 0, 0, 0);
    Due.text(x, 0, "fine cut=100;allow cut;");
    due.fails("it is barred no longer", x.barred(0));
    x.wait(10);
    of(due, "at first alone", x, 0, 4, 0, 10, 15, 5, 0, 0, 0);
  }
}
