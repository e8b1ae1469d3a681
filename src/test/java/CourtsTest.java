/** Promises 21 (warden) and 26 to 28 (present, proof, of): what is presented, and how it comes through the first two courts. */
public final class CourtsTest {
  public static void main(String[] args) {
    Due due = new Due();
    wardens(due);
    noWarden(due);
    sixWardens(due);
    presentments(due);
    noPresentment(due);
    fortyPresentments(due);
    presentedBefore(due);
    notBarred(due);
    badPledges(due);
    proofs(due);
    noProof(due);
    closedToProofs(due);
    whatItIs(due);
    ofNothing(due);
    throughThreeCourts(due);
    plainCourts(due);
    onEarlierDays(due);
    weightAndProofs(due);
    doubtful(due);
    courtsOfTheDay(due);
    changingCourts(due);
    deadAccused(due);
    heirsFree(due);
    noHeir(due);
    deadAheadOfAll(due);
    due.end();
  }

  private static void wardens(Due due) {
    due.about(0, "WARDENS, numbered from 0 on, 6 at most: a PERSON, a WEIGHT (1 to 9), a SHARE (0 to 50 hundredths).");
    due.about(21, "A WARDEN: the number");
    ForestCourts x = Due.woods("", 0, 0);
    due.same("the least of all", x.warden(0, 1, 0), 0);
    due.same("the greatest of all", x.warden(1, 9, 50), 1);
    due.same("one person may be two", x.warden(1, 9, 50), 2);
    x.die(0);
    due.same("or dead", x.warden(0, 9, 50), 3);
    due.same("wardens", x.count(5), 4);
  }

  private static void noWarden(Due due) {
    due.about(21, "IllegalArgumentException: WEIGHT, SHARE.");
    ForestCourts x = Due.woods("", 0);
    due.only("weight", 1, 9, n -> x.warden(0, n, 5));
    due.only("share", 0, 50, n -> x.warden(0, 5, n));
    due.same("no warden", x.count(5), 0);
    due.about(18, "IndexOutOfBoundsException: no such PERSON (so below)");
    due.numbered("person", 1, n -> x.warden(n, 5, 5));
    due.numbered("person, of no weight", 1, n -> x.warden(n, 0, 5));
    due.same("no warden", x.count(5), 0);
  }

  private static void sixWardens(Due due) {
    due.about(21, "-1: there are 6.");
    ForestCourts x = Due.woods("", 0);
    for (int k = 0; k < 6; k++) {
      due.same("warden " + k, x.warden(0, 1 + k, 50), k);
    }
    due.same("a seventh", x.warden(0, 1, 1), -1);
    due.argument("a seventh of no share", () -> x.warden(0, 1, 51));
    due.index("a seventh who is nobody", () -> x.warden(1, 1, 1));
    due.same("6 are there", x.count(5), 6);
  }

  private static void presentments(Due due) {
    due.about(0, "PRESENTMENTS, numbered from 0 on, 40 at most: of a DEED that is BARRED, by a WARDEN, with two PLEDGES who live, "
        + "neither the PERSON of the DEED, nor one another; once for each DEED. ACCUSED is at first the PERSON of the DEED.");
    due.about(26, "A PRESENTMENT: its number");
    ForestCourts x = Due.wardened("bar cut;", 0, 0, 0, 0, 0);
    x.wait(7);
    x.deed(0, 0, 500, 500, 0, 1);
    x.deed(3, 0, 100, 100, 7, 1);
    due.same("the first", x.present(0, 0, 1, 2), 0);
    due.of("the first", x, 0, 0, 0, 7, -1, 0, 0, 0, 0);
    due.same("a warden may be a pledge", x.present(1, 0, 4, 0), 1);
    due.of("the second", x, 1, 0, 3, 7, -1, 0, 0, 0, 0);
    due.same("presentments", x.count(7), 2);
    x.deed(3, 0, 100, 100, 7, 1);
    x.die(3);
    due.same("of a dead one's deed", x.present(2, 0, 0, 1), 2);
    due.of("the third", x, 2, 0, 3, 7, -1, 0, 0, 0, 0);
    x.deed(4, 0, 100, 100, 7, 1);
    due.same("by a warden of himself", x.present(3, 0, 0, 1), 3);
  }

  private static void noPresentment(Due due) {
    due.about(26, "IndexOutOfBoundsException: no such DEED, WARDEN, PERSON.");
    ForestCourts x = Due.wardened("bar cut;", 0, 0, 0, 0, 0);
    x.deed(0, 0, 500, 500, 0, 1);
    due.numbered("deed", 1, n -> x.present(n, 0, 1, 2));
    due.numbered("warden", 1, n -> x.present(0, n, 1, 2));
    due.numbered("one pledge", 5, n -> x.present(0, 0, n, 2));
    due.numbered("other pledge", 5, n -> x.present(0, 0, 1, n));
    due.same("nothing", x.count(7), 0);
    x.present(0, 0, 1, 2);
    due.index("nobody, of a deed that was presented", () -> x.present(0, 0, 1, 5));
  }

  private static void fortyPresentments(Due due) {
    due.about(26, "or, the first of these: -1 there are 40");
    ForestCourts x = Due.wardened("bar cut;", 0, 0, 0, 0, 0);
    for (int k = 0; k < 40; k++) {
      due.same("presentment " + k, Due.present(x, 0, 1), k);
    }
    due.same("a 41st", Due.present(x, 0, 1), -1);
    due.same("a 41st of one presented", x.present(0, 0, 1, 2), -1);
    int other = x.deed(0, 1, 500, 500, 0, 1);
    due.same("a 41st that is not barred", x.present(other, 0, 1, 2), -1);
    due.same("a 41st with one pledge twice", x.present(40, 0, 1, 1), -1);
    due.index("a 41st of no deed", () -> x.present(42, 0, 1, 2));
    due.same("40 are there", x.count(7), 40);
    due.same("the last of them", x.of(39, 0), 0);
  }

  private static void presentedBefore(Due due) {
    due.about(26, "-2 the DEED was presented");
    ForestCourts x = Due.wardened("bar cut;courts 1 4000 4000;", 0, 0, 0, 0, 0);
    Due.present(x, 0, 1);
    Due.present(x, 0, 1);
    due.same("again", x.present(0, 0, 1, 2), -2);
    due.same("the second again", x.present(1, 0, 3, 4), -2);
    due.same("again, and one pledge twice", x.present(0, 0, 1, 1), -2);
    x.proof(0, -9);
    x.wait(1);
    due.same("it is quashed", x.of(0, 0), 5);
    due.same("again, as it is quashed", x.present(0, 0, 1, 2), -2);
    Due.text(x, 0, "allow cut;");
    due.same("again, and it is not barred any more", x.present(0, 0, 1, 2), -2);
    due.same("two are there", x.count(7), 2);
  }

  private static void notBarred(Due due) {
    due.about(26, "-3 it is not BARRED");
    ForestCourts x = Due.wardened("bar cut;", 0, 0, 0, 0, 0);
    x.deed(0, 1, 500, 500, 0, 1);
    x.deed(0, 0, 5, 5, 0, 1);
    due.same("no word", x.present(0, 0, 1, 2), -3);
    due.same("out", x.present(1, 0, 1, 2), -3);
    due.same("no word, and one pledge twice", x.present(0, 0, 1, 1), -3);
    due.same("no word, and the deed's person", x.present(0, 0, 0, 1), -3);
    x.die(3);
    due.same("no word, and a dead pledge", x.present(0, 0, 3, 1), -3);
    due.same("nothing", x.count(7), 0);
    Due.text(x, 0, "bar hunt;");
    due.same("barred later", x.present(0, 0, 1, 2), 0);
  }

  private static void badPledges(Due due) {
    due.about(26, "-4 a PLEDGE is DEAD, the DEED's PERSON, or both are one.");
    ForestCourts x = Due.wardened("bar cut;", 0, 0, 0, 0, 0);
    x.deed(0, 0, 500, 500, 0, 1);
    x.die(3);
    due.same("both are one", x.present(0, 0, 1, 1), -4);
    due.same("the deed's person first", x.present(0, 0, 0, 1), -4);
    due.same("the deed's person second", x.present(0, 0, 1, 0), -4);
    due.same("the deed's person twice", x.present(0, 0, 0, 0), -4);
    due.same("a dead one first", x.present(0, 0, 3, 1), -4);
    due.same("a dead one second", x.present(0, 0, 1, 3), -4);
    due.same("a dead one twice", x.present(0, 0, 3, 3), -4);
    due.same("nothing", x.count(7), 0);
    due.same("it was not presented", x.present(0, 0, 1, 2), 0);
  }

  private static void proofs(Due due) {
    due.about(0, "PROOFS (-9 to 9 each) may be told; their sum counts.");
    due.about(27, "A PROOF: their sum");
    ForestCourts x = Due.wardened("bar cut;", 0, 0, 0, 0, 0);
    Due.present(x, 0, 1);
    Due.present(x, 0, 1);
    due.same("the least", x.proof(0, -9), -9);
    due.same("their sum", x.proof(0, 4), -5);
    due.same("none", x.proof(0, 0), -5);
    due.same("the greatest, of another one", x.proof(1, 9), 9);
    for (int k = 2; k < 60; k++) {
      due.same("and again", x.proof(1, 9), 9 * k);
    }
    due.same("of the first", x.proof(0, -9), -14);
  }

  private static void noProof(Due due) {
    due.about(27, "IndexOutOfBoundsException: no such PRESENTMENT (so below)");
    ForestCourts x = Due.wardened("bar cut;", 0, 0, 0, 0, 0);
    Due.present(x, 0, 1);
    Due.present(x, 0, 1);
    due.numbered("presentment", 2, n -> x.proof(n, 0));
    due.numbered("presentment, and no proof", 2, n -> x.proof(n, 10));
    due.about(27, "IllegalArgumentException: it is none such.");
    due.only("proof", -9, 9, n -> x.proof(1, n));
    due.same("their sum", x.proof(1, 1), 1);
  }

  private static void closedToProofs(Due due) {
    due.about(27, "-1000, doing nothing: it isn't PRESENTED or ATTACHED");
    ForestCourts x = Due.wardened("bar cut;courts 1 3 6;", 0, 0, 0, 0, 0);
    Due.present(x, 0, 1);
    Due.present(x, 0, 1);
    due.same("presented", x.proof(0, -5), -5);
    x.wait(1);
    due.same("it is quashed", x.of(0, 0), 5);
    due.same("quashed", x.proof(0, 9), -1000);
    due.argument("10, of one that is quashed", () -> x.proof(0, 10));
    due.same("it is quashed still", x.of(0, 0), 5);
    due.same("attached", x.proof(1, -9), -9);
    x.wait(2);
    due.same("it is found", x.of(1, 0), 2);
    due.same("found", x.proof(1, 9), -1000);
    x.wait(3);
    due.same("it is owed", x.of(1, 0), 4);
    due.same("owed", x.proof(1, 9), -1000);
    x.person(0, 1);
    x.heir(0, 5);
    x.die(0);
    x.wait(6);
    due.same("it is paid", x.of(1, 0), 3);
    due.same("paid", x.proof(1, 9), -1000);
    Due.present(x, 5, 1);
    x.die(5);
    x.wait(1);
    due.same("it is dead", x.of(2, 0), 6);
    due.same("dead", x.proof(2, 9), -1000);
  }

  private static void whatItIs(Due due) {
    due.about(0, "A PRESENTMENT is: 0 PRESENTED, 1 ATTACHED, 2 FOUND, 3 PAID, 4 OWED, 5 QUASHED, 6 DEAD.");
    due.about(28, "Of a PRESENTMENT: 0 what it is (0 to 6), 1 the ACCUSED, 2 the DAY on which it came to be so, 3 what is OWED "
        + "(NONE: it is neither PAID nor OWED), 4 what was paid by the ACCUSED, 5, 6 for the PLEDGES, 7 what the WARDEN's PERSON got.");
    ForestCourts x = Due.wardened("bar cut;courts 5 7 9;fine cut=100;", 40, 30, 20, 1000, 0);
    x.wait(3);
    Due.present(x, 0, 1);
    Due.present(x, 0, 1);
    Due.present(x, 3, 1);
    Due.present(x, 0, 1);
    x.proof(1, -9);
    due.of("presented", x, 0, 0, 0, 3, -1, 0, 0, 0, 0);
    x.wait(2);
    due.of("attached", x, 0, 1, 0, 5, -1, 0, 0, 0, 0);
    due.of("quashed", x, 1, 5, 0, 5, -1, 0, 0, 0, 0);
    x.wait(2);
    due.of("found", x, 0, 2, 0, 7, -1, 0, 0, 0, 0);
    x.wait(2);
    due.of("owed", x, 0, 4, 0, 9, 10, 40, 30, 20, 4 + 3 + 2);
    due.of("paid", x, 2, 3, 3, 9, 0, 100, 0, 0, 10);
    due.of("owed by one who has nothing", x, 3, 4, 0, 9, 100, 0, 0, 0, 0);
    x.wait(5);
    x.die(0);
    x.wait(4);
    due.of("dead", x, 0, 6, 0, 18, -1, 40, 30, 20, 9);
    due.of("quashed and not touched any more", x, 1, 5, 0, 5, -1, 0, 0, 0, 0);
  }

  private static void ofNothing(Due due) {
    due.about(28, "IllegalArgumentException: another what.");
    ForestCourts x = Due.wardened("bar cut;", 0, 0, 0, 0, 0);
    Due.present(x, 0, 1);
    Due.present(x, 0, 1);
    due.only("what", 0, 7, n -> x.of(0, n));
    due.about(27, "IndexOutOfBoundsException: no such PRESENTMENT (so below)");
    due.numbered("presentment", 2, n -> x.of(n, 0));
    due.numbered("presentment, of no what", 2, n -> x.of(n, 8));
  }

  private static void throughThreeCourts(Due due) {
    due.about(0, "Each DAY that begins (today being one more), if its number leaves 0 by the first of the COURTS on it");
    due.about(0, "Then, if it leaves 0 by the second: all that were ATTACHED on earlier DAYS");
    due.about(0, "Then, if it leaves 0 by the third: all that were FOUND on earlier DAYS, or are OWED");
    ForestCourts x = Due.wardened("bar cut;courts 10 15 20;", 100, 0, 0, 0, 0);
    x.wait(10);
    Due.present(x, 0, 30);
    x.wait(9);
    due.of("day 19", x, 0, 0, 0, 10);
    x.wait(1);
    due.of("attached on day 20", x, 0, 1, 0, 20, -1);
    x.wait(9);
    due.of("day 29", x, 0, 1, 0, 20, -1);
    x.wait(1);
    due.of("found on day 30", x, 0, 2, 0, 30, -1);
    x.wait(9);
    due.of("day 39", x, 0, 2, 0, 30, -1);
    x.wait(1);
    due.of("paid on day 40", x, 0, 3, 0, 40, 0, 30, 0, 0, 3);
    x.wait(200);
    due.of("it stays so", x, 0, 3, 0, 40, 0, 30, 0, 0, 3);
    due.same("once", x.told(0, 1), 70);
  }

  private static void plainCourts(Due due) {
    due.about(0, "without: courts 40 120 1080, use 20, owe.");
    ForestCourts x = Due.wardened("bar cut;", 100, 0, 0, 0, 0);
    Due.present(x, 0, 30);
    int[] days = {39, 40, 119, 120, 1079, 1080};
    int[] want = {0, 1, 1, 2, 2, 3};
    int[] since = {0, 40, 40, 120, 120, 1080};
    for (int k = 0; k < days.length; k++) {
      Due.until(x, days[k]);
      due.of("day " + days[k], x, 0, want[k], 0, since[k]);
    }
  }

  private static void onEarlierDays(Due due) {
    due.about(0, "all that were PRESENTED on earlier DAYS, by number");
    due.about(0, "all that were ATTACHED on earlier DAYS");
    due.about(0, "all that were FOUND on earlier DAYS, or are OWED");
    ForestCourts x = Due.wardened("bar cut;courts 10 10 10;", 10, 0, 0, 0, 0);
    x.wait(10);
    Due.present(x, 0, 30);
    due.of("presented on a day of all courts", x, 0, 0, 0, 10);
    x.wait(10);
    due.of("the first court only", x, 0, 1, 0, 20);
    x.wait(10);
    due.of("the second court only", x, 0, 2, 0, 30);
    x.wait(10);
    due.of("the third court", x, 0, 4, 0, 40, 20);
    ForestCourts y = Due.wardened("bar cut;courts 1 1 1;", 100, 0, 0, 0, 0);
    Due.present(y, 0, 30);
    y.wait(1);
    due.of("each day one court", y, 0, 1, 0, 1);
    Due.present(y, 0, 30);
    y.wait(1);
    due.of("each day one court", y, 0, 2, 0, 2);
    due.of("the second is a day behind", y, 1, 1, 0, 2);
    y.wait(1);
    due.of("each day one court", y, 0, 3, 0, 3);
    due.of("the second is a day behind", y, 1, 2, 0, 3);
  }

  private static void weightAndProofs(Due due) {
    due.about(0, "QUASHED, if the WARDEN's WEIGHT and the PROOFS together are 0 or less; else ATTACHED.");
    int[] weights = {1, 1, 1, 5, 5, 9, 9, 9};
    int[] told = {0, -1, -2, -4, -5, -8, -9, 9};
    for (int k = 0; k < weights.length; k++) {
      ForestCourts x = Due.woods("bar cut;courts 1 2 3;", 0, 0, 0);
      x.warden(0, weights[k], 0);
      Due.present(x, 0, 1);
      x.proof(0, told[k]);
      x.wait(1);
      due.of("weight " + weights[k] + ", proofs " + told[k], x, 0, weights[k] + told[k] > 0 ? 1 : 5, 0, 1, -1);
    }
    ForestCourts y = Due.woods("bar cut;courts 1 2 3;", 0, 0, 0);
    y.warden(0, 1, 0);
    y.warden(0, 9, 0);
    y.present(y.deed(0, 0, 500, 500, 0, 1), 1, 1, 2);
    y.present(y.deed(0, 0, 500, 500, 0, 1), 0, 1, 2);
    y.proof(0, -9);
    y.proof(0, 1);
    y.proof(1, -1);
    y.wait(1);
    due.of("by the heavier warden", y, 0, 1, 0, 1, -1);
    due.of("by the lighter one", y, 1, 5, 0, 1, -1);
  }

  private static void doubtful(Due due) {
    due.about(0, "QUASHED, if the place is DOUBTFUL (on the DEED's DAY, by STRIP now) and PROOFS are 0 or less; else FOUND.");
    ForestCourts x = Due.wardened("bar cut;courts 1 2 100;", 100, 0, 0, 0, 0);
    int[] places = {100, 100, 100, 110, 111, 500};
    int[] told = {0, 1, -1, 0, 0, -4};
    int[] want = {5, 2, 5, 5, 2, 2};
    for (int k = 0; k < places.length; k++) {
      x.present(x.deed(0, 0, places[k], 500, 0, 1), 0, 1, 2);
      x.proof(k, told[k]);
    }
    x.wait(1);
    x.strip(10);
    x.wait(1);
    for (int k = 0; k < places.length; k++) {
      due.of("at " + places[k] + ", proofs " + told[k], x, k, want[k], 0, 2, -1);
    }
    // the bounds of the deed's day count, not today's
    ForestCourts y = Due.wardened("bar cut;courts 1 4 100;", 100, 0, 0, 0, 0);
    y.unring(0, 2);
    y.present(y.deed(0, 0, 100, 500, 0, 1), 0, 1, 2);
    y.present(y.deed(0, 0, 500, 500, 0, 1), 0, 1, 2);
    y.wait(3);
    Due.square(y, 500, 700);
    y.wait(1);
    due.of("doubtful on its day", y, 0, 2, 0, 4);
    due.of("doubtful by a ring told later", y, 1, 5, 0, 4);
  }

  private static void courtsOfTheDay(Due due) {
    due.about(0, "by the first of the COURTS on it");
    ForestCourts x = Due.wardened("bar cut;courts 7 4000 4000;", 1000, 0, 0, 0, 0);
    Due.text(x, 7, "courts 5 4000 4000;");
    Due.text(x, 13, "undo 1;");
    Due.present(x, 0, 1);
    x.wait(7);
    due.of("not on day 7, as the courts of that day are others", x, 0, 0, 0, 0);
    x.wait(3);
    due.of("on day 10", x, 0, 1, 0, 10);
    Due.present(x, 0, 1);
    x.wait(4);
    due.of("on day 14, as the others are undone", x, 1, 1, 0, 14);
  }

  private static void changingCourts(Due due) {
    due.about(0, "by the first of the COURTS on it");
    ForestCourts x = new ForestCourts();
    Due.square(x, 100, 900);
    due.same("courts that begin later", Due.text(x, 6, "bar cut;courts 3 4000 4000;"), 0);
    Due.text(x, 0, "bar cut;courts 7 4000 4000;undo 0;");
    Due.text(x, 5, "undo 1;");
    for (int k = 0; k < 5; k++) {
      x.person(0, 0);
    }
    x.warden(4, 5, 10);
    Due.present(x, 0, 1);
    x.wait(8);
    due.of("on day 6, the first of the later courts", x, 0, 1, 0, 6);
    Due.present(x, 0, 1);
    x.wait(2);
    due.of("on day 9", x, 1, 1, 0, 9);
    Due.present(x, 0, 1);
    Due.text(x, 0, "courts 11 4000 4000;");
    x.wait(1);
    due.of("on day 11, by a text that was told on day 10", x, 2, 1, 0, 11);
    // texts that begin on days that follow one another, and on the last day
    ForestCourts y = Due.wardened("bar cut;courts 4000 1 1;", 0, 0, 0, 0, 0);
    Due.text(y, 100000, "courts 25 1 1;");
    Due.text(y, 3, "courts 3 1 1;");
    Due.text(y, 4, "undo 2;courts 4 1 1;");
    Due.text(y, 5, "undo 3;undo 2;");
    Due.present(y, 0, 1);
    y.wait(3);
    due.of("on day 3", y, 0, 1, 0, 3);
    Due.present(y, 0, 1);
    y.wait(1);
    due.of("on day 4", y, 1, 1, 0, 4);
    Due.present(y, 0, 1);
    y.wait(3995);
    due.of("no more on day 3,999", y, 2, 0, 0, 4);
    y.wait(1);
    due.of("on day 4,000", y, 2, 1, 0, 4000);
  }

  private static void deadAccused(Due due) {
    due.about(0, "When one comes up in a court, and the ACCUSED is DEAD: if HEIRS owe on that DAY, and there is an HEIR OF the ACCUSED, "
        + "that one is the ACCUSED from then on");
    ForestCourts x = Due.wardened("bar cut;courts 10 20 30;", 50, 0, 0, 60, 0);
    x.heir(0, 3);
    Due.present(x, 0, 70);
    x.wait(3);
    x.die(0);
    due.of("until a court", x, 0, 0, 0, 0);
    x.wait(6);
    due.of("until a court", x, 0, 0, 0, 0);
    x.wait(1);
    due.of("the heir", x, 0, 1, 3, 10);
    x.heir(0, 1);
    x.wait(20);
    due.of("who stays it; found on day 20, asked on 30", x, 0, 4, 3, 30, 10, 60, 0, 0, 6);
    due.same("the dead one's coins", x.told(0, 1), 50);
    x.person(0, 3);
    x.person(0, 100);
    x.heir(3, 5);
    x.heir(5, 6);
    x.die(3);
    x.die(5);
    x.wait(30);
    due.of("the heir of the heir's heir", x, 0, 3, 6, 60, 0, 70, 0, 0, 7);
    due.same("who paid", x.told(6, 1), 90);
    ForestCourts y = Due.wardened("bar cut;courts 10 20 30;", 50, 0, 0, 60, 0);
    y.heir(0, 3);
    Due.present(y, 0, 70);
    y.wait(10);
    y.die(0);
    y.wait(10);
    due.of("dead in the second court", y, 0, 2, 3, 20);
    y.heir(3, 1);
    y.die(3);
    y.wait(10);
    due.of("dead in the third court", y, 0, 4, 1, 30, 70);
  }

  private static void heirsFree(Due due) {
    due.about(0, "if HEIRS owe on that DAY");
    ForestCourts x = Due.wardened("bar cut;courts 10 20 30;heirs free;", 50, 0, 0, 60, 0);
    x.heir(0, 3);
    Due.present(x, 0, 70);
    x.die(0);
    x.wait(9);
    due.of("until a court", x, 0, 0, 0, 0, -1, 0, 0, 0, 0);
    x.wait(1);
    due.of("heirs are free", x, 0, 6, 0, 10, -1, 0, 0, 0, 0);
    ForestCourts z = Due.wardened("bar cut;courts 10 20 30;", 50, 0, 0, 60, 0);
    Due.text(z, 20, "heirs free;");
    Due.text(z, 21, "heirs owe;");
    z.heir(0, 3);
    Due.present(z, 0, 70);
    z.wait(10);
    z.die(0);
    z.wait(9);
    due.of("until the second court", z, 0, 1, 0, 10);
    z.wait(1);
    due.of("free on the second court's day", z, 0, 6, 0, 20);
    ForestCourts y = Due.wardened("bar cut;courts 10 20 30;heirs free;", 50, 0, 0, 60, 0);
    Due.text(y, 10, "heirs owe;");
    Due.text(y, 11, "heirs free;");
    y.heir(0, 3);
    Due.present(y, 0, 70);
    y.die(0);
    y.wait(10);
    due.of("owe on the first court's day", y, 0, 1, 3, 10);
    y.wait(10);
    due.of("who lives owes whatever heirs do", y, 0, 2, 3, 20);
  }

  private static void noHeir(Due due) {
    due.about(0, "else it is DEAD.");
    ForestCourts x = Due.wardened("bar cut;courts 10 20 30;", 50, 0, 0, 60, 0);
    Due.present(x, 0, 70);
    x.heir(0, 3);
    x.heir(3, 0);
    x.die(0);
    x.die(3);
    x.wait(10);
    due.of("no heir lives", x, 0, 6, 0, 10, -1, 0, 0, 0, 0);
    x.heir(0, 1);
    x.wait(50);
    due.of("dead for good", x, 0, 6, 0, 10, -1, 0, 0, 0, 0);
    ForestCourts y = Due.wardened("bar cut;courts 10 20 30;", 50, 0, 0, 60, 0);
    Due.present(y, 0, 70);
    y.wait(30);
    due.of("owed", y, 0, 4, 0, 30, 20, 50, 0, 0, 5);
    y.die(0);
    y.wait(29);
    due.of("owed until the court", y, 0, 4, 0, 30, 20, 50, 0, 0, 5);
    y.wait(1);
    due.of("nothing is owed any more", y, 0, 6, 0, 60, -1, 50, 0, 0, 5);
    due.same("pledges keep what they have", y.told(1, 1), 0);
  }

  private static void deadAheadOfAll(Due due) {
    due.about(0, "When one comes up in a court, and the ACCUSED is DEAD");
    ForestCourts x = Due.wardened("bar cut;courts 10 20 30;heirs free;", 50, 0, 0, 60, 0);
    Due.present(x, 0, 70);
    x.proof(0, -9);
    x.present(x.deed(3, 0, 100, 500, 0, 1), 0, 1, 2);
    Due.present(x, 3, 1);
    x.proof(2, -9);
    x.die(0);
    x.wait(10);
    due.of("dead rather than quashed for its proofs", x, 0, 6, 0, 10);
    due.of("one who lives", x, 1, 1, 3, 10);
    due.of("quashed, as this one lives", x, 2, 5, 3, 10);
    x.die(3);
    x.wait(10);
    due.of("dead rather than quashed for its place", x, 1, 6, 3, 20);
    due.of("one that is quashed comes up no more", x, 2, 5, 3, 10);
  }
}
