/** Promises 17 to 20 (person, heir, die, told). */
public final class PeopleTest {
  public static void main(String[] args) {
    Due due = new Due();
    numbers(due);
    noPerson(due);
    fortyPeople(due);
    heirs(due);
    noHeir(due);
    dying(due);
    nobodyDies(due);
    told(due);
    toldNothing(due);
    heirOfOne(due);
    longRows(due);
    oneComesAgain(due);
    due.end();
  }

  private static ForestCourts people(int n) {
    ForestCourts x = new ForestCourts();
    for (int k = 0; k < n; k++) {
      x.person(0, 0);
    }
    return x;
  }

  private static void numbers(Due due) {
    due.about(0, "PEOPLE, numbered from 0 on, 40 at most: RANK 0 to 3, COINS (from 0 to 1,000,000; what would be above is lost), "
        + "an HEIR (none at first), DEAD from a DAY on, or not.");
    due.about(17, "A PERSON: the number.");
    ForestCourts x = new ForestCourts();
    int[] coins = {0, 1, 999999, 1000000};
    for (int k = 0; k < 4; k++) {
      due.same("person " + k, x.person(k, coins[k]), k);
    }
    for (int k = 0; k < 4; k++) {
      due.same("rank of " + k, x.told(k, 0), k);
      due.same("coins of " + k, x.told(k, 1), coins[k]);
      due.same("no death of " + k, x.told(k, 2), -1);
      due.same("no heir of " + k, x.told(k, 3), -1);
    }
    due.same("people", x.count(4), 4);
  }

  private static void noPerson(Due due) {
    due.about(17, "IllegalArgumentException: RANK, COINS");
    ForestCourts x = new ForestCourts();
    due.only("rank", 0, 3, n -> x.person(n, 5));
    due.only("coins", 0, 1000000, n -> x.person(0, n));
    due.same("nobody", x.count(4), 0);
  }

  private static void fortyPeople(Due due) {
    due.about(17, "IllegalStateException: there are 40.");
    ForestCourts x = people(39);
    due.same("the fortieth", x.person(3, 7), 39);
    due.state("a 41st", () -> x.person(0, 0));
    due.argument("a 41st of no rank", () -> x.person(4, 0));
    due.argument("a 41st with too few coins", () -> x.person(0, -1));
    due.same("40 are there", x.count(4), 40);
    due.same("the fortieth has coins", x.told(39, 1), 7);
    x.die(5);
    due.state("the dead are there, too", () -> x.person(0, 0));
  }

  private static void heirs(Due due) {
    due.about(18, "The HEIR of a PERSON is another one (NONE: none): who it was (NONE).");
    ForestCourts x = people(6);
    due.same("none was", x.heir(0, 1), -1);
    due.same("1 was", x.heir(0, 5), 1);
    due.same("5 was", x.heir(0, 5), 5);
    due.same("5 was", x.heir(0, -1), 5);
    due.same("none was", x.heir(0, -1), -1);
    due.same("none was", x.heir(0, 1), -1);
    due.same("of another one none was", x.heir(5, 0), -1);
    x.die(1);
    due.same("it was a dead one", x.heir(0, 2), 1);
    x.die(0);
    due.same("the dead have heirs, too", x.heir(0, 1), 2);
    due.same("0 was", x.heir(5, 1), 0);
  }

  private static void noHeir(Due due) {
    due.about(18, "IndexOutOfBoundsException: no such PERSON (so below)");
    ForestCourts x = people(3);
    x.heir(2, 1);
    due.numbered("person", 3, n -> x.heir(n, 0));
    due.numbered("person without heir", 3, n -> x.heir(n, -1));
    for (int heir : new int[] {-2, 3, Integer.MIN_VALUE, Integer.MAX_VALUE}) {
      due.index("heir " + heir, () -> x.heir(2, heir));
      due.index("both are " + heir, () -> x.heir(heir, heir));
    }
    due.index("both are -1", () -> x.heir(-1, -1));
    due.about(18, "IllegalArgumentException: both are one.");
    for (int k = 0; k < 3; k++) {
      int one = k;
      due.argument("both are " + k, () -> x.heir(one, one));
    }
    due.same("the heir is as it was", x.told(2, 3), 1);
  }

  private static void dying(Due due) {
    due.about(19, "A PERSON dies today: 1; -1: is DEAD.");
    ForestCourts x = people(3);
    due.same("on the first day", x.die(0), 1);
    due.same("is dead", x.die(0), -1);
    x.wait(17);
    due.same("on day 17", x.die(2), 1);
    x.wait(1);
    due.same("is dead", x.die(2), -1);
    due.same("is dead still", x.die(0), -1);
    due.same("died on the first day", x.told(0, 2), 0);
    due.same("died on day 17, once", x.told(2, 2), 17);
    due.same("lives", x.told(1, 2), -1);
  }

  private static void nobodyDies(Due due) {
    due.about(19, "A PERSON dies today");
    ForestCourts x = people(2);
    due.numbered("person", 2, x::die);
    due.same("0 lives", x.told(0, 2), -1);
    due.same("1 lives", x.told(1, 2), -1);
  }

  private static void told(Due due) {
    due.about(20, "Of a PERSON: 0 RANK, 1 COINS, 2 the DAY of death (NONE), 3 the HEIR OF that one (NONE).");
    ForestCourts x = new ForestCourts();
    x.person(3, 20);
    x.person(2, 30);
    x.person(1, 40);
    x.heir(0, 2);
    x.wait(9);
    x.die(0);
    int[] want = {3, 20, 9, 2};
    for (int what = 0; what < 4; what++) {
      due.same("told(0, " + what + ")", x.told(0, what), want[what]);
    }
    int[] others = {2, 30, -1, -1};
    for (int what = 0; what < 4; what++) {
      due.same("told(1, " + what + ")", x.told(1, what), others[what]);
    }
  }

  private static void toldNothing(Due due) {
    due.about(20, "IllegalArgumentException: another what.");
    ForestCourts x = people(4);
    due.only("what", 0, 3, n -> x.told(0, n));
    due.about(18, "IndexOutOfBoundsException: no such PERSON (so below)");
    due.numbered("person", 4, n -> x.told(n, 0));
    due.numbered("person, of no what", 4, n -> x.told(n, 4));
  }

  private static void heirOfOne(Due due) {
    due.about(0, "HEIR OF one: the HEIR, if that one lives; else the HEIR OF that one, so on (none, if there is none");
    ForestCourts x = people(6);
    x.heir(0, 1);
    x.heir(1, 2);
    x.heir(2, 3);
    due.same("the heir lives", x.told(0, 3), 1);
    x.die(1);
    due.same("the heir's heir", x.told(0, 3), 2);
    due.same("of the dead one, too", x.told(1, 3), 2);
    x.die(2);
    due.same("so on", x.told(0, 3), 3);
    x.die(0);
    due.same("whether the one lives or not", x.told(0, 3), 3);
    x.die(3);
    due.same("there is none", x.told(0, 3), -1);
    x.heir(2, 4);
    due.same("another one now", x.told(0, 3), 4);
    due.same("of a dead one, too", x.told(1, 3), 4);
    x.heir(2, -1);
    due.same("none again", x.told(0, 3), -1);
  }

  private static void longRows(Due due) {
    due.about(0, "else the HEIR OF that one, so on");
    ForestCourts x = people(40);
    for (int k = 0; k < 39; k++) {
      x.heir(k, k + 1);
    }
    for (int k = 1; k < 39; k++) {
      x.die(k);
      due.same("behind " + k + " who are dead", x.told(0, 3), k + 1);
    }
    x.die(39);
    due.same("all are dead but the first", x.told(0, 3), -1);
    x.heir(39, 0);
    due.same("of the last the first", x.told(39, 3), 0);
    due.same("of the second the first, behind 38 who are dead", x.told(1, 3), 0);
  }

  private static void oneComesAgain(Due due) {
    due.about(0, "so on (none, if there is none, or one comes again).");
    ForestCourts x = people(40);
    for (int k = 0; k < 40; k++) {
      x.heir(k, (k + 1) % 40);
      x.die(k);
    }
    for (int k = 0; k < 40; k++) {
      due.same("in a round of forty, from " + k, x.told(k, 3), -1);
    }
    x.heir(5, 3);
    due.same("a round that does not come back to the first", x.told(0, 3), -1);
    ForestCourts y = people(5);
    y.heir(0, 1);
    y.heir(1, 0);
    due.same("each of two is the other's", y.told(0, 3), 1);
    due.same("each of two is the other's", y.told(1, 3), 0);
    y.die(1);
    due.same("one who lives comes again", y.told(0, 3), -1);
    due.same("of the dead one it is who lives", y.told(1, 3), 0);
    y.heir(1, 2);
    y.heir(2, 3);
    y.heir(3, 0);
    y.die(2);
    due.same("ahead of the first one is another who lives", y.told(0, 3), 3);
    y.die(3);
    due.same("one who lives comes again behind three", y.told(0, 3), -1);
    due.same("from within the round", y.told(2, 3), 0);
    y.heir(4, 1);
    due.same("from outside the round", y.told(4, 3), 0);
    y.heir(3, 1);
    due.same("a round of the dead ahead of the first one", y.told(0, 3), -1);
    due.same("a round of the dead", y.told(4, 3), -1);
    y.heir(3, 2);
    due.same("two of the dead are each other's", y.told(0, 3), -1);
    due.same("from one of them", y.told(3, 3), -1);
  }
}
