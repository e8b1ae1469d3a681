/** Promises 22 to 25 (deed, barred, why, fine). */
public final class DeedsTest {
  public static void main(String[] args) {
    Due due = new Due();
    arguments(due);
    words(due);
    places(due);
    facts(due);
    values(due);
    fines(due);
    laterTexts(due);
    due.end();
  }

  private static ForestCourts woods() {
    ForestCourts x = new ForestCourts();
    Due.square(x, 100, 900);
    for (int rank = 0; rank < 4; rank++) {
      x.person(rank, 100);
    }
    return x;
  }

  private static void arguments(Due due) {
    ForestCourts x = woods();
    x.wait(10);
    due.index("person -1", () -> x.deed(-1, 0, 0, 0, 0, 1));
    due.index("person 4", () -> x.deed(4, 0, 0, 0, 0, 1));
    due.index("person 4 and no act", () -> x.deed(4, 6, 0, 0, 0, 1));
    due.argument("act -1", () -> x.deed(0, -1, 0, 0, 0, 1));
    due.argument("act 6", () -> x.deed(0, 6, 0, 0, 0, 1));
    due.argument("x -1", () -> x.deed(0, 0, -1, 0, 0, 1));
    due.argument("x 1000", () -> x.deed(0, 0, 1000, 0, 0, 1));
    due.argument("y -1", () -> x.deed(0, 0, 0, -1, 0, 1));
    due.argument("y 1000", () -> x.deed(0, 0, 0, 1000, 0, 1));
    due.argument("day -1", () -> x.deed(0, 0, 0, 0, -1, 1));
    due.argument("tomorrow", () -> x.deed(0, 0, 0, 0, 11, 1));
    due.argument("none", () -> x.deed(0, 0, 0, 0, 0, 0));
    due.argument("too many", () -> x.deed(0, 0, 0, 0, 0, 1001));
    for (int k = 0; k < 60; k++) {
      due.same("deed " + k, x.deed(3, 5, 999, 999, 10, 1000), k);
    }
    due.same("a 61st", x.deed(0, 0, 0, 0, 0, 1), -1);
    due.argument("a 61st of no act", () -> x.deed(0, 6, 0, 0, 0, 1));
    due.index("barred(60)", () -> x.barred(60) ? 1 : 0);
    due.index("barred(-1)", () -> x.barred(-1) ? 1 : 0);
    due.index("why(60)", () -> x.why(60));
    due.index("why(-1)", () -> x.why(-1));
    due.index("fine(60)", () -> x.fine(60));
    due.index("fine(-1)", () -> x.fine(-1));
  }

  private static void words(Due due) {
    ForestCourts x = woods();
    int deed = x.deed(1, 0, 500, 500, 0, 5);
    int other = x.deed(1, 1, 500, 500, 0, 5);
    due.fails("no word", x.barred(deed));
    due.same("no word", x.why(deed), -1);
    due.same("no fine is told", x.fine(deed), 5);
    Due.text(x, 0, "use 1;bar cut;fine cut=9;");
    due.holds("barred", x.barred(deed));
    due.same("by clause 1 of text 0", x.why(deed), 1);
    due.same("its fine", x.fine(deed), 9);
    due.fails("another act", x.barred(other));
    due.same("another act", x.why(other), -1);
    due.same("another act", x.fine(other), 5);
    Due.text(x, 0, "allow cut if many>5;bar cut if many=5;allow cut if many=4;");
    due.same("the last that holds", x.why(deed), 101);
    Due.text(x, 0, "allow cut;");
    due.fails("allowed", x.barred(deed));
    due.same("by text 2", x.why(deed), 200);
    due.same("the fine stays", x.fine(deed), 9);
    Due.text(x, 0, "fine cut=8;strike cut;");
    due.same("all is struck", x.why(deed), -1);
    due.fails("all is struck", x.barred(deed));
    due.same("the fine, too", x.fine(deed), 5);
    Due.text(x, 0, "bar cut;strike hunt;fine cut=7;fine cut=3;");
    due.same("said again", x.why(deed), 400);
    due.same("the last fine", x.fine(deed), 3);
    Due.text(x, 0, "undo 4;undo 3;");
    due.same("what was struck is back", x.why(deed), 200);
    due.same("and its fine", x.fine(deed), 9);
    Due.text(x, 0, "allow cut;allow cut;allow cut;allow cut;allow cut;allow cut;allow cut;allow cut;allow cut;allow cut;allow cut;bar cut;");
    due.same("the twelfth clause", x.why(deed), 611);
  }

  private static void places(Due due) {
    ForestCourts x = woods();
    Due.text(x, 0, "bar cut;");
    x.deed(0, 0, 500, 500, 0, 1);
    x.deed(0, 0, 100, 500, 0, 1);
    x.deed(0, 0, 99, 500, 0, 1);
    due.holds("in", x.barred(0));
    due.holds("on a side", x.barred(1));
    due.fails("out", x.barred(2));
    due.same("the word on it", x.why(2), 0);
    x.strip(1);
    due.holds("near a side by the strip now", x.barred(2));
    x.strip(0);
    x.wait(5);
    x.deed(0, 0, 500, 500, 5, 1);
    x.unring(0, 5);
    due.holds("by the bounds of its day", x.barred(0));
    due.fails("no bounds on its day", x.barred(3));
    x.unring(0, 0);
    due.fails("undone for its day", x.barred(0));
  }

  private static int fineOf(ForestCourts x, String told, int deed) {
    int text = Due.text(x, 0, "fine cut=" + told + ";");
    if (text < 0) {
      return -1000 + text;
    }
    return x.fine(deed);
  }

  private static void facts(Due due) {
    ForestCourts x = woods();
    for (int k = 0; k < 3; k++) {
      x.wait(1000);
    }
    int in = x.deed(3, 0, 500, 500, 2999, 77);
    due.same("many", fineOf(x, "many", in), 77);
    due.same("month", fineOf(x, "month", in), 3);
    due.same("rank", fineOf(x, "rank", in), 3);
    due.same("year", fineOf(x, "year", in), 8);
    due.same("in", fineOf(x, "in*10+doubt", in), 10);
    int doubt = x.deed(2, 0, 100, 100, 360, 1);
    int out = x.deed(0, 0, 5, 5, 359, 1000);
    due.same("doubt", x.fine(doubt), 1);
    due.same("out", x.fine(out), 0);
    due.same("year and month", fineOf(x, "year*100+month", doubt), 100);
    due.same("year and month of the day ahead", x.fine(out), 11);
    due.same("rank", fineOf(x, "rank*1000+many", doubt), 2001);
    due.same("rank", x.fine(out), 1000);
    x.strip(100);
    due.same("ten texts at most", fineOf(x, "in+doubt*2", out), 0);
    x.strip(0);
    due.same("without a strip", x.fine(out), 0);
  }

  private static void values(Due due) {
    String[] told = {"2+3*4", "(2+3)*4", "20-5-3", "20-(5-3)", "100/7/2", "7/(0-2)+100", "(0-7)/2+100", "5/0", "5/(1-1)+2",
      "least(3,5)", "most(3,5)", "least(0-3,5)+10", "most(least(1,2),least(4,3))", "9999*9999*9999*9999", "9999*9999*43",
      "2*3/4", "2/4*3", "10-2*3+1", "0-5", "9999+9999", "(0-9999*9999*21-9999*4790-8417)/(0-1)",
      "in = 1"};
    int[] want = {14, 20, 12, 18, 7, 97, 97, 0, 2, 3, 5, 7, 3, -1, -1, 1, 0, 5, 0, 10000, -1, -1000 - 9};
    for (int k = 0; k < told.length; k++) {
      ForestCourts x = woods();
      x.deed(0, 0, 500, 500, 0, 1);
      int due0 = want[k];
      if (told[k].equals("9999*9999*9999*9999")) {
        due0 = clamp(9999 * 9999 * 9999 * 9999);
      } else if (told[k].equals("9999*9999*43")) {
        due0 = clamp(9999 * 9999 * 43);
      } else if (told[k].startsWith("(0-9999*9999")) {
        due0 = clamp(Integer.MIN_VALUE / (0 - 1));
        due.same("the least number of all", -9999L * 9999 * 21 - 9999 * 4790 - 8417, Integer.MIN_VALUE);
      }
      due.same(told[k], fineOf(x, told[k], 0), due0);
    }
    conditions(due);
  }

  private static int clamp(int value) {
    return Math.max(0, Math.min(10000, value));
  }

  private static void conditions(Due due) {
    String[] held = {"1<2", "2>1", "1=1", "1<2 or 1<0 and 1<0", "not 1>2", "not[1<2]or 1<2", "not not 1<2", "1+1=2", "0-1<0",
      "[1<0 or 1<2]and 1<2", "not 1<0 and 1<2", "many=1", "in=1 and doubt=0", "1=1 and 1<2", "1=1 and 2>1", "not[not 1=1]", "9999*9999*22<0"};
    String[] failed = {"2<1", "1<1", "1>1", "1=2", "[1<2 or 1<0]and 1<0", "not 1<2", "not[1<2 or 1<0]", "1<2 and 1<0",
      "not not 1<0", "not 1<2 and 1<0", "not 1<2 or 1<0", "not 1=1", "not 2>1"};
    for (String c : held) {
      ForestCourts x = woods();
      x.deed(0, 0, 500, 500, 0, 1);
      Due.text(x, 0, "bar cut if " + c + ";");
      due.same(c, x.why(0), 0);
    }
    for (String c : failed) {
      ForestCourts x = woods();
      x.deed(0, 0, 500, 500, 0, 1);
      due.same(c + " is a text", Due.text(x, 0, "bar cut if " + c + ";"), 0);
      due.same(c, x.why(0), -1);
    }
  }

  private static void fines(Due due) {
    ForestCourts x = woods();
    x.deed(0, 0, 5, 5, 0, 1000);
    due.same("without one many", x.fine(0), 1000);
    due.same("0 at least", fineOf(x, "0-1", 0), 0);
    due.same("10,000 at most", fineOf(x, "9999+2", 0), 10000);
    due.same("10,000", fineOf(x, "9999+1", 0), 10000);
    due.same("9,999", fineOf(x, "9999", 0), 9999);
  }

  private static void laterTexts(Due due) {
    ForestCourts x = woods();
    x.wait(100);
    x.deed(0, 2, 500, 500, 50, 1);
    Due.text(x, 51, "bar dogs;");
    due.same("not of its day", x.why(0), -1);
    Due.text(x, 50, "bar dogs;");
    due.same("of its day, though told later", x.why(0), 100);
    Due.text(x, 60, "undo 1;");
    due.same("undone later", x.why(0), 100);
    Due.text(x, 0, "undo 1;");
    due.same("undone on its day", x.why(0), -1);
  }
}
