/** Promises 10 to 12 (walk, walked, rivals). */
public final class WalkTest {
  public static void main(String[] args) {
    Due due = new Due();
    shortest(due);
    ties(due);
    none(due);
    sixNames(due);
    due.end();
  }

  private static void shortest(Due due) {
    ForestCourts x = new ForestCourts();
    x.mark(5, 0, 0);
    x.mark(6, 100, 0);
    x.mark(7, 0, 100);
    x.mark(7, 0, 50);
    x.mark(7, 50, 0);
    due.same("the shortest", Due.walk(x, 5, 6, 7), 300);
    due.same("mark 0", x.walked(0), 0);
    due.same("mark 1", x.walked(1), 1);
    due.same("mark 2 is 3, as 4 is on the side", x.walked(2), 3);
    due.same("no mark 3", x.walked(3), -1);
    due.same("no mark -1", x.walked(-1), -1);
    due.same("no mark of the least number", x.walked(Integer.MIN_VALUE), -1);
    due.same("no mark of the greatest number", x.walked(Integer.MAX_VALUE), -1);
    due.same("one rival", x.rivals(), 1);
    due.same("the tape is empty", x.count(13), 0);
    due.same("no ring is made", x.count(2), 0);
    due.same("names may come again, marks not", Due.walk(x, 7, 7, 5), 200);
    due.same("rivals", x.rivals(), 3);
    x.mark(7, 60, 60);
    due.same("what was walked stays", x.walked(0), 3);
  }

  private static void ties(Due due) {
    ForestCourts x = new ForestCourts();
    x.mark(0, 100, 100);
    x.mark(2, 100, 300);
    x.mark(1, 300, 200);
    x.mark(1, 300, 100);
    x.mark(2, 100, 300);
    x.mark(0, 100, 100);
    due.same("the length", Due.walk(x, 0, 1, 2), 800);
    due.same("the first, mark by mark: 0", x.walked(0), 0);
    due.same("then 2", x.walked(1), 2);
    due.same("then 1", x.walked(2), 1);
    due.same("rivals", x.rivals(), 7);
    due.same("the other way", Due.walk(x, 2, 1, 0), 800);
    due.same("the first is 1", x.walked(0), 1);
    due.same("then 2", x.walked(1), 2);
    due.same("then 0", x.walked(2), 0);
  }

  private static void none(Due due) {
    ForestCourts x = new ForestCourts();
    x.mark(0, 0, 0);
    x.mark(1, 10, 10);
    x.mark(2, 20, 20);
    x.mark(3, 0, 20);
    due.same("one is there", Due.walk(x, 0, 2, 3), 80);
    due.same("no rivals", x.rivals(), 0);
    due.same("on a line", Due.walk(x, 0, 1, 2), -1);
    due.same("rivals", x.rivals(), -1);
    due.same("walked", x.walked(0), -1);
    Due.walk(x, 0, 2, 3);
    due.same("no such name", Due.walk(x, 0, 2, 9), -1);
    due.same("walked", x.walked(0), -1);
    due.same("no name at all", Due.walk(x, 0, 2, 255), -1);
    Due.walk(x, 0, 2, 3);
    due.same("two", Due.walk(x, 0, 2), -2);
    due.same("walked", x.walked(0), -1);
    due.same("rivals", x.rivals(), -1);
    due.same("seven", Due.walk(x, 0, 2, 3, 0, 2, 3, 0), -2);
    due.same("none", x.walk(0), -2);
    Due.walk(x, 0, 2, 3);
    due.argument("3 of none", () -> x.walk(3));
    due.argument("-1", () -> x.walk(-1));
    due.same("what was walked stays", x.walked(1), 2);
    due.same("one twice", Due.walk(x, 0, 2, 2), -1);
  }

  private static void sixNames(Due due) {
    ForestCourts x = new ForestCourts();
    int[] xs = {0, 100, 200, 200, 100, 0};
    int[] ys = {0, 10, 0, 100, 90, 100};
    for (int copy = 0; copy < 4; copy++) {
      for (int k = 0; k < 6; k++) {
        x.mark(k, xs[k] + copy, ys[k] + copy);
      }
    }
    due.same("six names of four marks each", Due.walk(x, 0, 1, 2, 3, 4, 5), 628);
    int[] want = {18, 1, 2, 3, 22, 5};
    for (int k = 0; k < 6; k++) {
      due.same("mark " + k, x.walked(k), want[k]);
    }
    due.same("all are simple", x.rivals(), 4095);
  }
}
