/** Promises 17 to 20 (person, heir, die, told). */
public final class PeopleTest {
  public static void main(String[] args) {
    Due due = new Due();
    persons(due);
    heirs(due);
    rounds(due);
    comesBack(due);
    due.end();
  }

  private static void persons(Due due) {
    ForestCourts x = new ForestCourts();
    due.argument("rank -1", () -> x.person(-1, 0));
    due.argument("rank 4", () -> x.person(4, 0));
    due.argument("coins -1", () -> x.person(0, -1));
    due.argument("coins 1000001", () -> x.person(0, 1000001));
    for (int k = 0; k < 40; k++) {
      due.same("person " + k, x.person(k % 4, k == 39 ? 1000000 : k), k);
    }
    due.state("a 41st", () -> x.person(0, 0));
    due.argument("a 41st of no rank", () -> x.person(4, 0));
    due.same("rank", x.told(7, 0), 3);
    due.same("coins", x.told(39, 1), 1000000);
    due.same("coins", x.told(5, 1), 5);
    due.same("no death", x.told(0, 2), -1);
    due.same("no heir", x.told(0, 3), -1);
    due.index("person -1", () -> x.told(-1, 0));
    due.index("person 40", () -> x.told(40, 0));
    due.index("person 40 and no what", () -> x.told(40, 4));
    due.argument("what -1", () -> x.told(0, -1));
    due.argument("what 4", () -> x.told(0, 4));
    x.wait(17);
    due.same("dies", x.die(3), 1);
    x.wait(1);
    due.same("is dead", x.die(3), -1);
    due.same("died on", x.told(3, 2), 17);
    due.index("nobody dies", () -> x.die(40));
    due.index("nobody dies", () -> x.die(-1));
  }

  private static void heirs(Due due) {
    ForestCourts x = new ForestCourts();
    for (int k = 0; k < 6; k++) {
      x.person(0, 0);
    }
    due.same("none was", x.heir(0, 1), -1);
    due.same("1 was", x.heir(0, 2), 1);
    due.same("2 was", x.heir(0, -1), 2);
    due.same("none was", x.heir(0, 1), -1);
    due.index("person 6", () -> x.heir(6, 0));
    due.index("person -1", () -> x.heir(-1, 0));
    due.index("heir 6", () -> x.heir(0, 6));
    due.index("heir -2", () -> x.heir(0, -2));
    due.index("no person is no heir of none", () -> x.heir(-1, -1));
    due.argument("oneself", () -> x.heir(0, 0));
    x.heir(1, 2);
    x.heir(2, 3);
    due.same("the heir lives", x.told(0, 3), 1);
    x.die(1);
    due.same("the heir's heir", x.told(0, 3), 2);
    x.die(2);
    due.same("so on", x.told(0, 3), 3);
    x.die(3);
    due.same("there is none", x.told(0, 3), -1);
    x.heir(2, 4);
    due.same("another one now", x.told(0, 3), 4);
    due.same("of a dead one too", x.told(1, 3), 4);
  }

  private static void rounds(Due due) {
    ForestCourts x = new ForestCourts();
    for (int k = 0; k < 40; k++) {
      x.person(0, 0);
    }
    for (int k = 0; k < 40; k++) {
      x.heir(k, (k + 1) % 40);
    }
    for (int k = 0; k < 39; k++) {
      x.die(k);
    }
    due.same("the last of all lives", x.told(0, 3), 39);
    due.same("39 steps on", x.told(1, 3), 39);
    x.die(39);
    due.same("one comes again", x.told(0, 3), -1);
    due.same("one comes again", x.told(39, 3), -1);
    // a round that does not come back to the first
    x.heir(5, 3);
    due.same("one comes again", x.told(0, 3), -1);
  }

  private static void comesBack(Due due) {
    ForestCourts x = new ForestCourts();
    for (int k = 0; k < 5; k++) {
      x.person(0, 0);
    }
    x.heir(0, 1);
    x.heir(1, 0);
    due.same("each of two is the other's", x.told(0, 3), 1);
    due.same("each of two is the other's", x.told(1, 3), 0);
    x.die(1);
    due.same("one who lives comes again", x.told(0, 3), -1);
    due.same("of the dead one it is who lives", x.told(1, 3), 0);
    x.heir(1, 2);
    x.heir(2, 3);
    x.heir(3, 0);
    x.die(2);
    due.same("ahead of the first one is another who lives", x.told(0, 3), 3);
    x.die(3);
    due.same("one who lives comes again behind three", x.told(0, 3), -1);
    due.same("from within the round", x.told(2, 3), 0);
    x.heir(4, 1);
    due.same("from outside the round", x.told(4, 3), 0);
    x.heir(3, 1);
    due.same("a round of the dead ahead of the first one", x.told(0, 3), -1);
    due.same("a round of the dead", x.told(4, 3), -1);
  }
}
