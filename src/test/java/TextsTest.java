/** Promises 13 to 16 (text, fault, force, rule). */
public final class TextsTest {
  private static final String TWELVE = "use 1;use 2;use 3;use 4;use 5;use 6;use 7;use 8;use 9;use 10;use 11;use 12;";

  public static void main(String[] args) {
    Due due = new Due();
    good(due);
    misplaced(due);
    wrongNumbers(due);
    tooMany(due);
    limits(due);
    inForce(due);
    rules(due);
    due.end();
  }

  private static void good(Due due, String text) {
    ForestCourts x = new ForestCourts();
    due.same("\"" + text + "\"", Due.text(x, 0, text), 0);
    due.same("its fault", x.fault(), -1);
    due.same("it is there", x.count(3), 1);
    due.same("the tape is empty", x.count(13), 0);
  }

  private static void bad(Due due, String text, int fault, int place) {
    ForestCourts x = new ForestCourts();
    due.same("\"" + text + "\"", Due.text(x, 0, text), fault - 10);
    due.same("the fault of \"" + text + "\"", x.fault(), place);
    due.same("it is none", x.count(3), 0);
    due.same("the tape is empty", x.count(13), 0);
  }

  private static void good(Due due) {
    good(due, "");
    good(due, "   ");
    good(due, "bar cut;");
    good(due, "  bar   cut  ;  ");
    good(due, "allow build if 1<2;");
    good(due, "strike swine;");
    good(due, "fine clear=1;fine hunt = many ;");
    good(due, "heirs owe;heirs free;");
    good(due, "courts 1 4000 1;courts1 2 3;use60;");
    good(due, "courts 0001 02 000000000000000003;");
    good(due, "bar dogs if1<2and 2<3or 3<4;");
    good(due, "bar dogs if not not[1<2]and[[in=1]or doubt=1];");
    good(due, "fine cut=most(1,least(many,month))*(rank+year-in/doubt);");
    good(due, "fine cut=0-1;fine cut=9999;fine cut=((((((((1))))))));");
    good(due, "bar cut if[[[[[[[[1<2]]]]]]]];");
    good(due, "bar cut if not not not not not not not not 1<2;");
    good(due, "bar cut if not not not not[[[[1<2]]]]and not not not not(((1)))<((((2))));");
    good(due, TWELVE);
    good(due, TWELVE + " ");
  }

  private static void misplaced(Due due) {
    bad(due, ";", 1, 0);
    bad(due, " ;", 1, 1);
    bad(due, "bar", 1, 3);
    bad(due, "bar  ", 1, 5);
    bad(due, "bar cut", 1, 7);
    bad(due, "bar cut;;", 1, 8);
    bad(due, "barcut;", 1, 0);
    bad(due, "bar cuts;", 1, 4);
    bar(due);
    bad(due, "bar 1;", 1, 4);
    bad(due, "strike cut if 1<2;", 1, 11);
    bad(due, "heirs owefree;", 1, 6);
    bad(due, "heirs;", 1, 5);
    bad(due, "heirs 1;", 1, 6);
    bad(due, "fine cut;", 1, 8);
    bad(due, "fine cut=;", 1, 9);
    bad(due, "fine cut=1 2;", 1, 11);
    bad(due, "fine cut=1<2;", 1, 10);
    bad(due, "fine cut=-1;", 1, 9);
    bad(due, "fine cut=(1;", 1, 11);
    bad(due, "fine cut=1);", 1, 10);
    bad(due, "fine cut=[1];", 1, 9);
    bad(due, "fine cut=least 1;", 1, 15);
    bad(due, "fine cut=least(1;", 1, 16);
    bad(due, "fine cut=most(1,2,3);", 1, 17);
    bad(due, "fine cut=not;", 1, 9);
    bad(due, "undo;", 1, 4);
    bad(due, "undo many;", 1, 5);
    bad(due, "use", 1, 3);
    bad(due, "use 1 2;", 1, 6);
    bad(due, "courts 1 2;", 1, 10);
    bad(due, "courts 1 2 3 4;", 1, 13);
    bad(due, "courts 1,2,3;", 1, 8);
    bad(due, "Use 1;", 1, 0);
    bad(due, "use\t1;", 1, 3);
    bad(due, "use 1\n;", 1, 5);
    bad(due, "use 1;\0", 1, 6);
    bad(due, "use 1;\u00ff", 1, 6);
  }

  private static void bar(Due due) {
    bad(due, "bar cut if;", 1, 10);
    bad(due, "bar cut iff 1<2;", 1, 8);
    bad(due, "bar cut if 1;", 1, 12);
    bad(due, "bar cut if 1<;", 1, 13);
    bad(due, "bar cut if 1<2<3;", 1, 14);
    bad(due, "bar cut if 1<2 and;", 1, 18);
    bad(due, "bar cut if 1<2 and or 1<2;", 1, 19);
    bad(due, "bar cut if (1<2);", 1, 13);
    bad(due, "bar cut if [1];", 1, 13);
    bad(due, "bar cut if [1<2;", 1, 15);
    bad(due, "bar cut if 1<2];", 1, 14);
    bad(due, "bar cut if not;", 1, 14);
    bad(due, "bar cut if 1==2;", 1, 13);
    bad(due, "bar cut if 1<2 hunt;", 1, 15);
    bad(due, "bar cut if cut<2;", 1, 11);
  }

  private static void wrongNumbers(Due due) {
    bad(due, "fine cut=10000;", 2, 9);
    bad(due, "fine cut= 99999999999999999999;", 2, 10);
    bad(due, "fine cut=4294967297;", 2, 9);
    bad(due, "bar cut if 1<10000;", 2, 13);
    bad(due, "courts 0 1 1;", 2, 7);
    bad(due, "courts 1 0 1;", 2, 9);
    bad(due, "courts 1 1 0;", 2, 11);
    bad(due, "courts 1 1 4001;", 2, 11);
    bad(due, "courts 1 4001 1;", 2, 9);
    bad(due, "courts 4001 x", 2, 7);
    bad(due, "use 0;", 2, 4);
    bad(due, "use  61;", 2, 5);
    bad(due, "undo 0;", 2, 5);
    bad(due, "use 1;undo 12345;", 2, 11);
    // a number that can't stand there at all is misplaced
    bad(due, "bar 99999;", 1, 4);
    ForestCourts x = new ForestCourts();
    Due.text(x, 0, "use 1;");
    due.same("of itself", Due.text(x, 0, "undo 1;"), -8);
    due.same("of an earlier one", Due.text(x, 0, "undo 0;"), 1);
    due.same("of the one ahead", Due.text(x, 0, "undo 1;undo 0;"), 2);
    due.same("of none such", Due.text(x, 0, "undo 2;undo 3;"), -8);
    due.same("at its number", x.fault(), 12);
  }

  private static void tooMany(Due due) {
    bad(due, TWELVE + "use 1;", 3, TWELVE.length());
    bad(due, TWELVE + "  use 1;", 3, TWELVE.length() + 2);
    bad(due, TWELVE + "use", 3, TWELVE.length());
    bad(due, TWELVE + "uses", 1, TWELVE.length());
    bad(due, TWELVE + "cut", 1, TWELVE.length());
    bad(due, TWELVE + ";", 1, TWELVE.length());
    bad(due, "bar cut if [[[[[[[[[1<2]]]]]]]]];", 3, 19);
    bad(due, "bar cut if not not not not not not not not not 1<2;", 3, 43);
    bad(due, "fine cut=(((((((((1)))))))));", 3, 17);
    bad(due, "fine cut=((((((((least(1,2)))))))));", 3, 22);
    bad(due, "fine cut=((((((((least 1", 1, 23);
    bad(due, "bar cut if not[not[not[not[(1)<2]]]];", 3, 27);
    bad(due, "fine cut=((((((((1))))))))+(((((((((1)))))))));", 3, 35);
    // all that was closed counts no longer, a not neither when its test has ended
    good(due, "bar cut if not 1<2 and not 1<2 and not 1<2 and not 1<2 and not 1<2 and not 1<2 and not 1<2 and not 1<2 and not 1<2;");
    good(due, "fine cut=(1)+(1)+(1)+(1)+(1)+(1)+(1)+(1)+(1)+least(1,1)+most(1,1);");
    good(due, "bar cut if [1<2] and [1<2] and [1<2] and [1<2] and [1<2] and [1<2] and [1<2] and [1<2] and [1<2];");
    // what can't stand there is misplaced, be it the ninth or not
    bad(due, "bar cut if [[[[[[[[1[", 1, 20);
    // within the two parts of one least its ( is open in both
    bad(due, "fine cut=(((((((least((1),1))))))));", 3, 22);
    good(due, "fine cut=((((((least((1),(1))))))));");
    bad(due, "fine cut=(((((((least(1,(1)))))))));", 3, 24);
  }

  private static void limits(Due due) {
    ForestCourts x = new ForestCourts();
    due.argument("none on the tape", () -> x.text(0, 1));
    due.argument("-1", () -> x.text(0, -1));
    x.feed(0, 0, 0, 0, 0);
    due.argument("day -1", () -> x.text(-1, 0));
    due.argument("day 100001", () -> x.text(100001, 0));
    due.same("the tape is as it was", x.count(13), 20);
    due.same("a byte that can't stand there", x.text(0, 1), -9);
    due.same("its place", x.fault(), 0);
    due.argument("none on the tape", () -> x.text(0, 1));
    due.same("the fault of the latest text", x.fault(), 0);
    for (int k = 0; k < 10; k++) {
      due.same("text " + k, Due.text(x, 100000, "use 1;"), k);
    }
    due.same("no fault", x.fault(), -1);
    due.same("an 11th", Due.text(x, 0, "use 1;"), -1);
    due.same("no fault", x.fault(), -1);
    due.same("the tape is empty", x.count(13), 0);
    due.same("10 are there", x.count(3), 10);
    ForestCourts y = new ForestCourts();
    String all = "bar cut if " + "1+".repeat(193) + "1<2";
    due.same("a text of 400 bytes without its end", Due.text(y, 0, (all + "   ").substring(0, 400)), -9);
    due.same("at its length", y.fault(), 400);
    due.same("a text of 400 bytes", Due.text(y, 0, (" " + all).substring(0, 399) + ";"), -9);
    String whole = "fine cut=" + "1+".repeat(194) + "12;";
    due.same("its length", whole.length(), 400);
    due.same("a text of 400 bytes", Due.text(y, 0, whole), 0);
    Due.square(y, 0, 900);
    y.person(0, 0);
    y.deed(0, 0, 5, 5, 0, 1);
    due.same("its fine", y.fine(0), 206);
    for (int k = 1; k < 10; k++) {
      due.same("one more", Due.text(y, 0, whole), k);
    }
    due.same("its fine still", y.fine(0), 206);
  }

  private static void inForce(Due due) {
    ForestCourts x = new ForestCourts();
    Due.text(x, 10, "use 5;");
    Due.text(x, 20, "undo 0;");
    Due.text(x, 30, "undo 1;");
    Due.text(x, 5, "use 7;undo 2;");
    Due.text(x, 40, "undo 3;undo 3;");
    boolean[][] want = {
      // on days 4, 5, 10, 20, 30, 40
      {false, false, true, false, false, true},
      {false, false, false, true, true, false},
      {false, false, false, false, false, true},
      {false, true, true, true, true, false},
      {false, false, false, false, false, true}};
    int[] days = {4, 5, 10, 20, 30, 40};
    for (int t = 0; t < 5; t++) {
      for (int k = 0; k < days.length; k++) {
        due.same("force(" + t + ", " + days[k] + ")", x.force(t, days[k]) ? 1 : 0, want[t][k] ? 1 : 0);
      }
    }
    due.same("use on day 20", x.rule(20, 3), 7);
    due.same("use on day 40", x.rule(40, 3), 5);
    due.index("text -1", () -> x.force(-1, 0) ? 1 : 0);
    due.index("text 5", () -> x.force(5, 0) ? 1 : 0);
    due.index("text 5 on no day", () -> x.force(5, -1) ? 1 : 0);
    due.argument("day -1", () -> x.force(0, -1) ? 1 : 0);
    due.argument("day 100001", () -> x.force(0, 100001) ? 1 : 0);
  }

  private static void rules(Due due) {
    ForestCourts x = new ForestCourts();
    Due.text(x, 10, "courts 1 2 3;use 4;heirs free;courts 5 6 7;");
    Due.text(x, 5, "use 8;heirs free;heirs owe;");
    Due.text(x, 20, "heirs free;");
    int[][] want = {{40, 120, 1080, 20, 1}, {40, 120, 1080, 8, 1}, {5, 6, 7, 8, 1}, {5, 6, 7, 8, 0}};
    int[] days = {4, 5, 10, 20};
    for (int k = 0; k < days.length; k++) {
      for (int what = 0; what < 5; what++) {
        due.same("rule(" + days[k] + ", " + what + ")", x.rule(days[k], what), want[k][what]);
      }
    }
    due.argument("day -1", () -> x.rule(-1, 0));
    due.argument("day 100001", () -> x.rule(100001, 0));
    due.argument("what -1", () -> x.rule(0, -1));
    due.argument("what 5", () -> x.rule(0, 5));
    due.same("the last day", x.rule(100000, 4), 0);
  }
}
