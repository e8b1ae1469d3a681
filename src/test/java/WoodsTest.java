/** Promises 39 to 41 (wood, take, stock). */
public final class WoodsTest {
  public static void main(String[] args) {
    Due due = new Due();
    arguments(due);
    growth(due);
    takings(due);
    knowing(due);
    most(due);
    due.end();
  }

  private static void arguments(Due due) {
    ForestCourts x = new ForestCourts();
    due.argument("year -1", () -> x.wood(-1, 0, 0));
    due.argument("year 278", () -> x.wood(278, 0, 0));
    due.argument("oaks -1", () -> x.wood(0, -1, 0));
    due.argument("oaks 100001", () -> x.wood(0, 100001, 0));
    due.argument("deer -1", () -> x.wood(0, 0, -1));
    due.argument("deer 100001", () -> x.wood(0, 0, 100001));
    for (int k = 0; k < 6; k++) {
      due.same("wood " + k, x.wood(k == 5 ? 277 : 10, 100000, 0), k);
    }
    due.same("a seventh", x.wood(0, 0, 0), -1);
    due.argument("a seventh of no year", () -> x.wood(278, 0, 0));
    due.index("wood 6", () -> x.take(6, 0, 10, 1));
    due.index("wood -1", () -> x.take(-1, 0, 10, 1));
    due.index("wood 6 and no kind", () -> x.take(6, 2, 10, 1));
    due.argument("kind 2", () -> x.take(0, 2, 10, 1));
    due.argument("kind -1", () -> x.take(0, -1, 10, 1));
    due.argument("the year ahead", () -> x.take(0, 0, 9, 1));
    due.argument("year 278", () -> x.take(0, 0, 278, 1));
    due.argument("none", () -> x.take(0, 0, 10, 0));
    due.argument("too many", () -> x.take(0, 0, 10, 100001));
    for (int k = 1; k <= 100; k++) {
      due.same("taking " + k, x.take(k % 6, k % 2, 277, k == 1 ? 100000 : 1), k);
    }
    due.same("a 101st", x.take(0, 0, 10, 1), -1);
    due.argument("a 101st of none", () -> x.take(0, 0, 10, 0));
    due.index("wood 6", () -> x.stock(6, 0, 10, 0));
    due.index("wood -1", () -> x.stock(-1, 0, 10, 0));
    due.index("wood 6 and no kind", () -> x.stock(6, 2, 10, 0));
    due.argument("kind 2", () -> x.stock(0, 2, 10, 0));
    due.argument("kind -1", () -> x.stock(0, -1, 10, 0));
    due.argument("year -1", () -> x.stock(0, 0, -1, 0));
    due.argument("year 278", () -> x.stock(0, 0, 278, 0));
    due.argument("day -1", () -> x.stock(0, 0, 10, -1));
    due.argument("day 100001", () -> x.stock(0, 0, 10, 100001));
    due.same("the year ahead", x.stock(0, 0, 9, 0), -1);
    due.same("the first year", x.stock(0, 0, 10, 0), 102000);
  }

  private static void growth(Due due) {
    ForestCourts x = new ForestCourts();
    x.wood(3, 149, 10);
    int[] oaks = {151, 154, 157};
    int[] deer = {13, 17, 20};
    for (int k = 0; k < 3; k++) {
      due.same("oaks of year " + (3 + k), x.stock(0, 0, 3 + k, 0), oaks[k]);
      due.same("deer of year " + (3 + k), x.stock(0, 1, 3 + k, 0), deer[k]);
    }
    x.wood(0, 0, 1000);
    due.same("no oaks", x.stock(1, 0, 100, 0), 0);
    due.same("five deer", x.stock(1, 1, 100, 0), 5);
    x.wood(0, 98, 2);
    due.same("fiftieth, cut", x.stock(2, 0, 0, 0), 99);
    due.same("two deer stay two", x.stock(2, 1, 50, 0), 2);
    x.wood(0, 99, 100);
    due.same("a tenth of the oaks as they are then, 100", x.stock(3, 0, 0, 0), 100);
    due.same("so 15", x.stock(3, 1, 0, 0), 15);
  }

  private static void takings(Due due) {
    ForestCourts x = new ForestCourts();
    x.wood(0, 1000, 60);
    x.wood(0, 1000, 60);
    x.take(0, 0, 1, 500);
    x.take(0, 0, 1, 20);
    x.take(0, 1, 1, 40);
    due.same("ahead of it", x.stock(0, 0, 0, 0), 1020);
    due.same("500 are left, and ten come", x.stock(0, 0, 1, 0), 510);
    due.same("deer ahead of it", x.stock(0, 1, 0, 0), 80);
    due.same("40 are left, and 13 come", x.stock(0, 1, 1, 0), 53);
    due.same("a tenth of 520, and 5", x.stock(0, 1, 2, 0), 57);
    due.same("another wood", x.stock(1, 0, 1, 0), 1040);
    x.take(0, 0, 2, 100000);
    due.same("0 at least", x.stock(0, 0, 2, 0), 0);
    due.same("nothing comes of nothing", x.stock(0, 0, 277, 0), 0);
    due.same("five deer", x.stock(0, 1, 2, 0), 5);
    x.take(0, 1, 3, 6);
    due.same("no deer", x.stock(0, 1, 3, 0), 0);
  }

  private static void knowing(Due due) {
    ForestCourts x = new ForestCourts();
    x.wood(0, 1000, 0);
    x.wait(5);
    x.take(0, 0, 200, 1000);
    x.wait(5);
    x.take(0, 0, 0, 500);
    due.same("not told", x.stock(0, 0, 0, 9), 1020);
    due.same("told on that day", x.stock(0, 0, 0, 10), 510);
    due.same("as known later", x.stock(0, 0, 0, 100000), 510);
    int without = x.stock(0, 0, 200, 4);
    int with = x.stock(0, 0, 200, 5);
    due.holds("1000 less, then a fiftieth more: " + without + ", " + with, without - with == 1020);
  }

  private static void most(Due due) {
    ForestCourts x = new ForestCourts();
    x.wood(0, 100000, 100000);
    due.same("oaks", x.stock(0, 0, 277, 0), 1000000);
    due.same("deer", x.stock(0, 1, 277, 0), 100005);
    due.same("deer at first", x.stock(0, 1, 0, 0), 10205);
    x.take(0, 0, 277, 1);
    due.same("one less, then at most so many", x.stock(0, 0, 277, 0), 1000000);
    x.take(0, 0, 276, 100000);
    x.take(0, 0, 277, 100000);
    due.same("900,000 of 1,000,000, and a fiftieth: 918,000; less 100,001", x.stock(0, 0, 277, 0), 834358);
  }
}
