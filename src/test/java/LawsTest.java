import java.util.ArrayList;
import java.util.List;

/** Promises 15 (force) and 16 (rule). */
public final class LawsTest {
  public static void main(String[] args) {
    Due due = new Due();
    fromItsDay(due);
    undone(due);
    oneOfMany(due);
    noForce(due);
    rules(due);
    theLastClause(due);
    eachItsOwn(due);
    inAnyOrder(due);
    without(due);
    noRule(due);
    due.end();
  }

  private static void fromItsDay(Due due) {
    due.about(0, "IN FORCE is a TEXT on a DAY from its DAY on");
    due.about(15, "Whether a TEXT is IN FORCE on a DAY.");
    ForestCourts x = new ForestCourts();
    Due.text(x, 10, "");
    Due.text(x, 0, "");
    Due.text(x, 100000, "");
    due.fails("the first day", x.force(0, 0));
    due.fails("the day ahead", x.force(0, 9));
    due.holds("its day", x.force(0, 10));
    due.holds("the last day", x.force(0, 100000));
    due.holds("from the first day on", x.force(1, 0));
    due.fails("the day ahead of the last one", x.force(2, 99999));
    due.holds("from the last day on", x.force(2, 100000));
  }

  private static void undone(Due due) {
    due.about(0, "unless one with a greater number that is IN FORCE on that DAY has an undo of it.");
    ForestCourts x = new ForestCourts();
    Due.text(x, 10, "use 5;");
    Due.text(x, 20, "undo 0;");
    Due.text(x, 30, "undo 1;");
    Due.text(x, 5, "use 7;undo 2;");
    Due.text(x, 40, "undo 3;undo 3;");
    int[] days = {4, 5, 9, 10, 19, 20, 29, 30, 39, 40};
    String[] want = {
      "...11....1",
      ".....1111.",
      ".........1",
      ".11111111.",
      ".........1"};
    for (int t = 0; t < 5; t++) {
      for (int k = 0; k < days.length; k++) {
        due.same("force(" + t + ", " + days[k] + ")", x.force(t, days[k]) ? 1 : 0, want[t].charAt(k) == '1' ? 1 : 0);
      }
    }
  }

  private static void oneOfMany(Due due) {
    due.about(0, "has an undo of it.");
    ForestCourts x = new ForestCourts();
    for (int k = 0; k < 7; k++) {
      Due.text(x, 0, "");
    }
    Due.text(x, 0, "undo 0;undo 6;");
    Due.text(x, 0, "undo 3;");
    Due.text(x, 0, "");
    String want = ".11.11.111";
    for (int t = 0; t < 10; t++) {
      due.same("force(" + t + ", 0)", x.force(t, 0) ? 1 : 0, want.charAt(t) == '1' ? 1 : 0);
    }
  }

  private static void noForce(Due due) {
    due.about(15, "IndexOutOfBoundsException: no such TEXT");
    ForestCourts x = new ForestCourts();
    Due.text(x, 0, "");
    Due.text(x, 0, "");
    due.numbered("text", 2, n -> x.force(n, 0) ? 1 : 0);
    due.numbered("text on no day", 2, n -> x.force(n, -1) ? 1 : 0);
    due.about(15, "IllegalArgumentException: the DAY.");
    due.only("day", 0, 100000, n -> x.force(1, n) ? 1 : 0);
  }

  private static void rules(Due due) {
    due.about(16, "On a DAY: 0 to 2 the COURTS, 3 USE, 4 whether HEIRS owe (1, 0).");
    ForestCourts x = new ForestCourts();
    Due.text(x, 10, "courts 1 2 3;use 4;heirs free;courts 5 6 7;");
    Due.text(x, 5, "use 8;heirs free;heirs owe;");
    Due.text(x, 20, "heirs free;");
    int[][] want = {{40, 120, 1080, 20, 1}, {40, 120, 1080, 8, 1}, {5, 6, 7, 8, 1}, {5, 6, 7, 8, 0}};
    int[] days = {4, 5, 10, 20};
    for (int k = 0; k < days.length; k++) {
      for (int what = 0; what < 5; what++) {
        due.same("rule(" + days[k] + ", " + what + ")", x.rule(days[k], what), want[k][what]);
      }
    }
  }

  private static void theLastClause(Due due) {
    due.about(0, "COURTS, USE (years), and whether HEIRS owe, on a DAY: what the last CLAUSE of the TEXTS IN FORCE on it tells");
    ForestCourts x = new ForestCourts();
    Due.text(x, 50, "use 1;use 2;");
    due.same("the last of one text", x.rule(50, 3), 2);
    Due.text(x, 40, "use 3;");
    due.same("of the text with the greatest number, though its day is earlier", x.rule(50, 3), 3);
    Due.text(x, 60, "undo 1;");
    due.same("until that one is undone", x.rule(59, 3), 3);
    due.same("then of the text ahead", x.rule(60, 3), 2);
    Due.text(x, 70, "heirs free;courts 9 8 7;");
    due.same("a text that does not tell it", x.rule(70, 3), 2);
    due.same("but this", x.rule(70, 4), 0);
    due.same("and the three courts at once", x.rule(70, 0) * 100 + x.rule(70, 1) * 10 + x.rule(70, 2), 987);
    Due.text(x, 80, "undo 0;undo 3;");
    due.same("all undone", x.rule(80, 3), 20);
    due.same("all undone", x.rule(80, 2), 1080);
  }

  private static void rulesAre(Due due, String call, ForestCourts x, int... want) {
    for (int what = 0; what < want.length; what++) {
      due.same(call + ": rule(0, " + what + ")", x.rule(0, what), want[what]);
    }
  }

  private static void eachItsOwn(Due due) {
    due.about(0, "what the last CLAUSE of the TEXTS IN FORCE on it tells; without: courts 40 120 1080, use 20, owe.");
    String[] texts = {"use 5;", "heirs free;", "courts 7 8 9;", "bar cut;fine cut=1+2+3;strike hunt;"};
    int[][] want = {{40, 120, 1080, 5, 1}, {40, 120, 1080, 20, 0}, {7, 8, 9, 20, 1}, {40, 120, 1080, 20, 1}};
    for (int k = 0; k < texts.length; k++) {
      ForestCourts x = new ForestCourts();
      Due.text(x, 0, texts[k]);
      rulesAre(due, texts[k], x, want[k]);
    }
    ForestCourts x = new ForestCourts();
    Due.text(x, 0, "courts 1 2 3;use 4;heirs free;");
    Due.text(x, 0, "undo 0;");
    rulesAre(due, "undone", x, 40, 120, 1080, 20, 1);
    due.fails("undone", x.force(0, 0));
  }

  /** One text tells all there is to tell, in each order: no clause takes from another one what it told. */
  private static void inAnyOrder(Due due) {
    due.about(0, "what the last CLAUSE of the TEXTS IN FORCE on it tells");
    String[] clauses = {"undo 1;", "courts 5 6 7;", "use 9;", "heirs free;"};
    for (int order = 0; order < 24; order++) {
      List<String> left = new ArrayList<>(List.of(clauses));
      StringBuilder text = new StringBuilder("fine cut=1+2*3;bar cut if many>4;");
      int rest = order;
      for (int size = 4; size > 0; size--) {
        text.append(left.remove(rest % size));
        rest /= size;
      }
      ForestCourts x = new ForestCourts();
      for (int k = 0; k < 3; k++) {
        Due.text(x, 0, "courts 1 1 1;use 1;heirs owe;");
      }
      due.same(text.toString(), Due.text(x, 0, text.toString()), 3);
      rulesAre(due, text.toString(), x, 5, 6, 7, 9, 0);
      for (int t = 0; t < 4; t++) {
        due.same(text + ": force(" + t + ", 0)", x.force(t, 0) ? 1 : 0, t == 1 ? 0 : 1);
      }
    }
  }

  private static void without(Due due) {
    due.about(0, "without: courts 40 120 1080, use 20, owe.");
    int[] plain = {40, 120, 1080, 20, 1};
    ForestCourts x = new ForestCourts();
    Due.text(x, 10, "courts 1 2 3;use 4;heirs free;");
    Due.text(x, 0, "bar cut;strike hunt;fine dogs=5;");
    for (int what = 0; what < 5; what++) {
      due.same("rule(9, " + what + ")", x.rule(9, what), plain[what]);
    }
  }

  private static void noRule(Due due) {
    due.about(16, "IllegalArgumentException: the DAY, or another what.");
    ForestCourts x = new ForestCourts();
    due.only("day", 0, 100000, n -> x.rule(n, 0));
    due.only("what", 0, 4, n -> x.rule(0, n));
    due.same("the first day", x.rule(0, 0), 40);
    due.same("the last day", x.rule(100000, 4), 1);
  }
}
