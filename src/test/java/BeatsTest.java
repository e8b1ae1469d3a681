/** Promises 35 to 38 (lodge, spot, beats, beat). */
public final class BeatsTest {
  public static void main(String[] args) {
    Due due = new Due();
    arguments(due);
    reach(due);
    rounds(due);
    firstTwo(due);
    ties(due);
    eight(due);
    due.end();
  }

  private static ForestCourts woods(int wardens) {
    ForestCourts x = new ForestCourts();
    x.person(0, 0);
    for (int k = 0; k < wardens; k++) {
      x.warden(0, 1, 0);
    }
    return x;
  }

  private static void beats(Due due, String call, ForestCourts x, int worth, int... want) {
    due.same(call + ": beats()", x.beats(), worth);
    for (int s = 0; s < want.length; s++) {
      due.same(call + ": beat(" + s + ")", x.beat(s), want[s]);
    }
  }

  private static void arguments(Due due) {
    ForestCourts x = woods(2);
    due.index("warden 2", () -> x.lodge(2, 0, 0, 0));
    due.index("warden -1", () -> x.lodge(-1, 0, 0, 0));
    due.index("warden 2 and no place", () -> x.lodge(2, 1000, 0, 0));
    due.argument("x 1000", () -> x.lodge(0, 1000, 0, 0));
    due.argument("y -1", () -> x.lodge(0, 0, -1, 0));
    due.argument("reach -1", () -> x.lodge(0, 0, 0, -1));
    due.argument("reach 4001", () -> x.lodge(0, 0, 0, 4001));
    due.argument("spot at x -1", () -> x.spot(-1, 0, 1));
    due.argument("spot at y 1000", () -> x.spot(0, 1000, 1));
    due.argument("worth 0", () -> x.spot(0, 0, 0));
    due.argument("worth 1001", () -> x.spot(0, 0, 1001));
    due.index("beat(0)", () -> x.beat(0));
    for (int k = 0; k < 8; k++) {
      due.same("spot " + k, x.spot(999, 999, 1000), k);
    }
    due.same("a ninth", x.spot(0, 0, 1), -1);
    due.index("beat(8)", () -> x.beat(8));
    due.index("beat(-1)", () -> x.beat(-1));
    beats(due, "without lodges", x, 0, -1, -1, -1, -1, -1, -1, -1, -1);
    due.same("a lodge", x.lodge(1, 0, 0, 4000), 1);
    beats(due, "all at one place", x, 8000, 1, 1, 1, 1, 1, 1, 1, 1);
    due.same("another lodge", x.lodge(1, 0, 0, 3995), 1);
    beats(due, "too far", x, 0, -1, -1, -1, -1, -1, -1, -1, -1);
    due.same("another lodge", x.lodge(1, 0, 0, 3996), 1);
    due.same("just so far", x.beats(), 8000);
  }

  private static void reach(Due due) {
    ForestCourts x = woods(1);
    x.lodge(0, 100, 100, 40);
    beats(due, "no spots", x, 0);
    x.spot(110, 110, 5);
    beats(due, "there and back", x, 5, 0);
    x.spot(90, 100, 4);
    beats(due, "both are too far", x, 5, 0, -1);
    x.lodge(0, 100, 100, 59);
    beats(due, "59 is not enough", x, 5, 0, -1);
    x.lodge(0, 100, 100, 60);
    beats(due, "60 is", x, 9, 0, 0);
    x.lodge(0, 90, 100, 0);
    beats(due, "at the lodge", x, 4, -1, 0);
  }

  private static void rounds(Due due) {
    // the order matters: a square round of 400, but 800 when gone to and fro
    ForestCourts x = woods(1);
    x.lodge(0, 0, 0, 400);
    x.spot(100, 0, 1);
    x.spot(0, 100, 1);
    x.spot(100, 100, 1);
    x.spot(50, 100, 1);
    x.spot(100, 50, 1);
    beats(due, "one round", x, 5, 0, 0, 0, 0, 0);
    x.lodge(0, 0, 0, 399);
    beats(due, "one less", x, 2, 0, -1, -1, -1, 0);
    x.spot(101, 101, 100);
    beats(due, "one far spot that can't be reached", x, 2, 0, -1, -1, -1, 0, -1);
    x.lodge(0, 0, 0, 404);
    beats(due, "all", x, 105, 0, 0, 0, 0, 0, 0);
    ForestCourts y = woods(1);
    y.spot(100, 100, 1);
    y.spot(100, 0, 1);
    y.spot(0, 100, 1);
    y.lodge(0, 0, 0, 400);
    beats(due, "the first spot between the others", y, 3, 0, 0, 0);
  }

  private static void firstTwo(Due due) {
    ForestCourts x = woods(4);
    x.spot(100, 100, 10);
    x.spot(200, 200, 20);
    x.spot(300, 300, 30);
    x.lodge(3, 300, 300, 0);
    beats(due, "one lodge", x, 30, -1, -1, 3);
    x.lodge(1, 100, 100, 0);
    beats(due, "two lodges", x, 40, 1, -1, 3);
    x.lodge(2, 200, 200, 0);
    beats(due, "the first two of three", x, 30, 1, 2, -1);
    x.lodge(1, 200, 200, 400);
    beats(due, "each in the best way", x, 50, -1, 1, 1);
  }

  private static void ties(Due due) {
    ForestCourts x = woods(2);
    x.spot(10, 10, 7);
    x.spot(30, 30, 7);
    x.spot(50, 50, 7);
    x.lodge(0, 30, 30, 80);
    x.lodge(1, 30, 30, 80);
    beats(due, "the first warden first", x, 21, 0, 0, 1);
    x.lodge(0, 30, 30, 79);
    x.lodge(1, 30, 30, 79);
    beats(due, "only the near spot", x, 7, -1, 0, -1);
    x.lodge(1, 30, 30, 80);
    beats(due, "the second the far one", x, 14, 1, 0, -1);
    ForestCourts y = woods(1);
    y.spot(20, 0, 7);
    y.spot(0, 20, 7);
    y.lodge(0, 0, 0, 40);
    beats(due, "the first spot rather than none", y, 7, 0, -1);
  }

  private static void eight(Due due) {
    ForestCourts x = woods(2);
    for (int k = 0; k < 8; k++) {
      x.spot(k * 100, 0, 1 + k);
    }
    x.lodge(0, 0, 0, 600);
    x.lodge(1, 700, 0, 600);
    beats(due, "each goes half the way", x, 36, 0, 0, 0, 0, 1, 1, 1, 1);
    x.lodge(1, 0, 0, 0);
    beats(due, "the second at the first's lodge", x, 10, 0, 0, 0, 0, -1, -1, -1, -1);
    x.lodge(0, 0, 0, 1400);
    beats(due, "all", x, 36, 0, 0, 0, 0, 0, 0, 0, 0);
  }
}
