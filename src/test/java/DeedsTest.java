/** Promises 22 to 25 (deed, barred, why, fine). */
public final class DeedsTest {
  public static void main(String[] args) {
    Due due = new Due();
    numbers(due);
    noDeed(due);
    sixtyDeeds(due);
    noSuchDeed(due);
    years(due);
    months(due);
    facts(due);
    placesOfItsDay(due);
    plainValues(due);
    wraps(due);
    cuts(due);
    byZero(due);
    conditions(due);
    everyPair(due);
    wordsByNumber(due);
    struck(due);
    barsAndAllows(due);
    textsOfItsDay(due);
    barredAt(due);
    lastWordIsBar(due);
    why(due);
    leastAndMostFine(due);
    lastFine(due);
    withoutFine(due);
    due.end();
  }

  private static ForestCourts woods() {
    ForestCourts x = Due.woods("");
    for (int rank = 0; rank < 4; rank++) {
      x.person(rank, 100);
    }
    return x;
  }

  private static void numbers(Due due) {
    due.about(0, "DEEDS, numbered from 0 on, 60 at most: a PERSON, an ACT, a place, a DAY up to today, MANY (1 to 1,000).");
    due.about(22, "A DEED: its number");
    ForestCourts x = woods();
    x.wait(10);
    due.same("the least of all", x.deed(0, 0, 0, 0, 0, 1), 0);
    due.same("the greatest of all", x.deed(3, 5, 999, 999, 10, 1000), 1);
    due.same("the same again", x.deed(3, 5, 999, 999, 10, 1000), 2);
    x.die(2);
    due.same("of a dead one", x.deed(2, 5, 999, 999, 10, 1000), 3);
    due.same("deeds", x.count(6), 4);
  }

  private static void noDeed(Due due) {
    due.about(22, "IllegalArgumentException: ACT, place, the DAY (also behind today), or MANY.");
    ForestCourts x = woods();
    due.only("day on the first one", 0, 0, n -> x.deed(0, 0, 0, 0, n, 1));
    x.wait(10);
    due.only("act", 0, 5, n -> x.deed(0, n, 5, 5, 0, 1));
    due.only("x", 0, 999, n -> x.deed(0, 0, n, 5, 0, 1));
    due.only("y", 0, 999, n -> x.deed(0, 0, 5, n, 0, 1));
    due.only("day", 0, 10, n -> x.deed(0, 0, 5, 5, n, 1));
    due.only("many", 1, 1000, n -> x.deed(0, 0, 5, 5, 0, n));
    due.same("no deed", x.count(6), 0);
    due.about(18, "IndexOutOfBoundsException: no such PERSON (so below)");
    due.numbered("person", 4, n -> x.deed(n, 0, 0, 0, 0, 1));
    due.numbered("person, and no act", 4, n -> x.deed(n, 6, 0, 0, 0, 1));
    due.same("no deed", x.count(6), 0);
  }

  private static void sixtyDeeds(Due due) {
    due.about(22, "-1: there are 60.");
    ForestCourts x = woods();
    for (int k = 0; k < 60; k++) {
      due.same("deed " + k, x.deed(3, 5, 999, 999, 0, 1000), k);
    }
    due.same("a 61st", x.deed(0, 0, 0, 0, 0, 1), -1);
    due.argument("a 61st of no act", () -> x.deed(0, 6, 0, 0, 0, 1));
    due.index("a 61st by nobody", () -> x.deed(4, 0, 0, 0, 0, 1));
    due.same("60 are there", x.count(6), 60);
    due.same("the last of them", x.fine(59), 1000);
  }

  private static void noSuchDeed(Due due) {
    due.about(23, "IndexOutOfBoundsException: no such DEED (so below).");
    ForestCourts x = woods();
    x.deed(0, 0, 0, 0, 0, 1);
    x.deed(0, 0, 0, 0, 0, 1);
    due.numbered("barred", 2, n -> x.barred(n) ? 1 : 0);
    due.numbered("why", 2, x::why);
    due.numbered("fine", 2, x::fine);
  }

  /** The value of that on a deed by a person of rank 0 in the square on the first day, by 0 to 10,000. */
  private static int value(String told) {
    ForestCourts x = woods();
    x.deed(0, 0, 500, 500, 0, 1);
    int text = Due.text(x, 0, "fine cut=" + told + ";");
    return text < 0 ? -1000 + text : x.fine(0);
  }

  private static boolean holds(String condition) {
    ForestCourts x = woods();
    x.deed(0, 0, 500, 500, 0, 1);
    Due.text(x, 0, "bar cut if " + condition + ";");
    return x.why(0) == 100;
  }

  private static void years(Due due) {
    due.about(0, "YEAR: DAY by 360, cut.");
    ForestCourts x = Due.woods("fine cut=year;", 0);
    x.wait(4000);
    int[] days = {0, 1, 359, 360, 361, 719, 720, 3599, 3600, 3959, 3960, 4000};
    int[] want = {0, 0, 0, 1, 1, 1, 2, 9, 10, 10, 11, 11};
    for (int k = 0; k < days.length; k++) {
      due.same("day " + days[k], x.fine(x.deed(0, 0, 5, 5, days[k], 1)), want[k]);
    }
  }

  private static void months(Due due) {
    due.about(0, "MONTH: DAY by 30, cut, by 12 what is left.");
    ForestCourts x = Due.woods("fine cut=month;", 0);
    x.wait(4000);
    int[] days = {0, 29, 30, 59, 60, 329, 330, 359, 360, 389, 390, 719, 720, 3990};
    int[] want = {0, 0, 1, 1, 2, 10, 11, 11, 0, 0, 1, 11, 0, 1};
    for (int k = 0; k < days.length; k++) {
      due.same("day " + days[k], x.fine(x.deed(0, 0, 5, 5, days[k], 1)), want[k]);
    }
  }

  private static void facts(Due due) {
    due.about(0, "many: MANY; month, year: of the DAY; rank: the PERSON's; in, doubt: 1, if the place is IN, DOUBTFUL on that DAY, "
        + "else 0.");
    ForestCourts x = woods();
    x.wait(3000);
    int in = x.deed(3, 0, 500, 500, 2999, 77);
    int doubt = x.deed(2, 0, 100, 100, 360, 1);
    int out = x.deed(0, 0, 5, 5, 359, 1000);
    String[] told = {"many", "month", "rank", "year", "in", "doubt", "in+doubt"};
    int[][] want = {{77, 1, 1000}, {3, 0, 11}, {3, 2, 0}, {8, 1, 0}, {1, 0, 0}, {0, 1, 0}, {1, 1, 0}};
    for (int k = 0; k < told.length; k++) {
      Due.text(x, 0, "fine cut=" + told[k] + ";");
      due.same(told[k] + " of the first", x.fine(in), want[k][0]);
      due.same(told[k] + " of the second", x.fine(doubt), want[k][1]);
      due.same(told[k] + " of the third", x.fine(out), want[k][2]);
    }
  }

  private static void placesOfItsDay(Due due) {
    due.about(0, "in, doubt: 1, if the place is IN, DOUBTFUL on that DAY, else 0.");
    ForestCourts x = Due.woods("fine cut=in*10+doubt;", 0);
    x.wait(20);
    x.unring(0, 10);
    int ahead = x.deed(0, 0, 110, 500, 9, 1);
    int behind = x.deed(0, 0, 110, 500, 10, 1);
    due.same("in, the day ahead of its undoing", x.fine(ahead), 10);
    due.same("out, on that day", x.fine(behind), 0);
    x.strip(9);
    due.same("in still", x.fine(ahead), 10);
    x.strip(10);
    due.same("doubtful by the strip now", x.fine(ahead), 1);
    due.same("out still", x.fine(behind), 0);
  }

  private static void plainValues(Due due) {
    due.about(0, "E: T { + or - T }. T: U { * or / U }.");
    String[] told = {"2+3*4", "(2+3)*4", "20-5-3", "20-(5-3)", "100/7/2", "100/(7/2)", "2*3/4", "2/4*3", "10-2*3+1", "1+2*3-4/2",
      "least(3,5)", "least(5,3)", "least(4,4)", "most(3,5)", "most(5,3)", "most(4,4)", "least(0-3,5)+10", "most(0-3,0-5)+10",
      "most(least(1,2),least(4,3))", "most(1+1,2*3)-least(7,8-2)", "0000012", "many*many+9"};
    int[] want = {14, 20, 12, 18, 7, 33, 1, 0, 5, 5, 3, 3, 4, 5, 5, 4, 7, 7, 3, 0, 12, 10};
    for (int k = 0; k < told.length; k++) {
      due.same(told[k], value(told[k]), want[k]);
    }
  }

  private static void wraps(Due due) {
    due.about(0, "VALUES are whole numbers of 32 bits that wrap");
    // 9999 * 9999 * 21 + 9999 * 4790 + 8417 is 2147483648, one more than the greatest
    String most = "(9999*9999*21+9999*4790+8416)";
    due.same("so it is", 9999L * 9999 * 21 + 9999 * 4790 + 8416, Integer.MAX_VALUE);
    due.holds("the greatest", holds(most + ">0"));
    due.holds("one more is the least of all", holds(most + "+1<0"));
    due.holds("two more", holds(most + "+1+1<" + most + "+1+2+1"));
    due.holds("0 less the greatest, less 1", holds("0-" + most + "-1<0"));
    due.holds("less 2", holds("0-" + most + "-2=" + most));
    due.holds("twice the greatest", holds(most + "*2=0-2"));
    due.holds("the greatest by itself", holds(most + "*" + most + "=1"));
    due.holds("65536 by itself", holds("256*256*256*256=0"));
    due.holds("32768 by 65536", holds("128*256*256*256=0-" + most + "-1"));
    due.holds("the greatest and the greatest", holds(most + "+" + most + "=0-2"));
    due.same("fine of one more than the greatest", value(most + "+1"), 0);
    due.same("fine of the greatest", value(most), 10000);
    due.same("fine of what wraps to 2", value(most + "+" + most + "+4"), 2);
    // what is held against one another is not taken away from one another first
    due.holds("the greatest is more than -1", holds(most + ">0-1"));
    due.holds("-1 is less than the greatest", holds("0-1<" + most));
    due.holds("the least of all is less than 1", holds(most + "+1<1"));
    due.holds("1 is more than the least of all", holds("1>" + most + "+1"));
    due.fails("the least of all is not more than the greatest", holds(most + "+1>" + most));
    due.holds("the greater of both", holds("most(" + most + "+1," + most + ")=" + most));
    due.holds("the lesser of both", holds("least(" + most + "+1," + most + ")<0"));
    due.same("fine of the least of all", value("0-" + most + "-1"), 0);
  }

  private static void cuts(Due due) {
    due.about(0, "/ cuts, by 0 it is 0.");
    String[] told = {"7/2", "6/2", "1/2", "9999/9998", "(0-7)/2+10", "7/(0-2)+10", "(0-7)/(0-2)", "(0-1)/2+10", "0/5"};
    int[] want = {3, 3, 0, 1, 7, 7, 3, 10, 0};
    for (int k = 0; k < told.length; k++) {
      due.same(told[k], value(told[k]), want[k]);
    }
    String least = "(0-9999*9999*21-9999*4790-8417)";
    due.holds("the least of all by -1 wraps", holds(least + "/(0-1)=" + least));
    due.holds("the least of all by 1", holds(least + "/1=" + least));
    due.holds("the least of all by 2", holds(least + "/2+1073*1000*1000<0"));
  }

  private static void byZero(Due due) {
    due.about(0, "by 0 it is 0.");
    String[] told = {"5/0", "0/0", "(0-5)/0", "5/(1-1)+2", "7*3/(many-1)+4", "9/doubt+1", "8/0/0+3", "1/0*5+6"};
    int[] want = {0, 0, 0, 2, 4, 1, 3, 6};
    for (int k = 0; k < told.length; k++) {
      due.same(told[k], value(told[k]), want[k]);
    }
    due.holds("it is 0", holds("5/0=0"));
    due.holds("of the least of all, too", holds("(0-9999*9999*21-9999*4790-8417)/0=0"));
  }

  private static void conditions(Due due) {
    due.about(0, "C: A { \"or\" A }. A: B { \"and\" B }. B: \"not\" B, \"[\" C \"]\", or E R E; R: <, > or =.");
    String[] held = {"1<2", "2>1", "1=1", "1<2 or 1<0 and 1<0", "1<0 and 1<0 or 1<2", "not 1>2", "not[1<2]or 1<2", "not not 1<2",
      "1+1=2", "0-1<0", "[1<0 or 1<2]and 1<2", "not 1<0 and 1<2", "many=1", "in=1 and doubt=0", "1=1 and 1<2", "1=1 and 2>1",
      "not[not 1=1]", "1<0 or 1<0 or 1<2", "1<2 and 1<2 and 1<2", "1<0 or not 1<0"};
    String[] failed = {"2<1", "1<1", "1>1", "1>2", "1=2", "2=1", "[1<2 or 1<0]and 1<0", "not 1<2", "not[1<2 or 1<0]", "1<2 and 1<0",
      "1<0 and 1<2", "not not 1<0", "not 1<2 and 1<0", "not 1<2 or 1<0", "not 1=1", "not 2>1", "1<0 or 1<0 or 1<0",
      "1<2 and 1<0 and 1<2", "1<0 and 1<2 or 1<0", "not[1<0]and 1<0"};
    for (String c : held) {
      due.holds(c, holds(c));
    }
    for (String c : failed) {
      due.fails(c, holds(c));
      due.holds("not[" + c + "]", holds("not[" + c + "]"));
    }
  }

  /** What holds and what does not, by twos and threes, alone and within what takes it on. */
  private static void everyPair(Due due) {
    due.about(0, "C: A { \"or\" A }. A: B { \"and\" B }. B: \"not\" B, \"[\" C \"]\", or E R E");
    for (int bits = 0; bits < 8; bits++) {
      boolean a = (bits & 4) != 0;
      boolean b = (bits & 2) != 0;
      boolean c = (bits & 1) != 0;
      String x = a ? "many=1" : "many=2";
      String y = b ? "1<2" : "2<1";
      String z = c ? "2>1" : "1>2";
      either(due, x + " or " + y, a || b);
      either(due, x + " and " + y, a && b);
      either(due, x + " or " + y + " or " + z, a || b || c);
      either(due, x + " and " + y + " and " + z, a && b && c);
      either(due, x + " or " + y + " and " + z, a || b && c);
      either(due, x + " and " + y + " or " + z, a && b || c);
      either(due, "[" + x + " or " + y + "]and " + z, (a || b) && c);
      either(due, x + " and[" + y + " or " + z + "]", a && (b || c));
      either(due, "not " + x + " or not " + y + " and not " + z, !a || !b && !c);
    }
  }

  private static void either(Due due, String condition, boolean want) {
    due.same(condition, holds(condition) ? 1 : 0, want ? 1 : 0);
    due.same("not[" + condition + "]", holds("not[" + condition + "]") ? 1 : 0, want ? 0 : 1);
    due.same("not not[" + condition + "]", holds("not not[" + condition + "]") ? 1 : 0, want ? 1 : 0);
  }

  private static void wordsByNumber(Due due) {
    due.about(0, "WORD on a DEED: by the TEXTS IN FORCE on its DAY, by number, CLAUSE by CLAUSE");
    ForestCourts x = woods();
    x.wait(20);
    int deed = x.deed(0, 0, 500, 500, 20, 1);
    Due.text(x, 20, "bar cut;");
    due.same("the first", x.why(deed), 100);
    Due.text(x, 10, "allow cut;bar cut;allow cut;");
    due.same("a greater number, though its day is earlier", x.why(deed), 202);
    Due.text(x, 21, "bar cut;");
    due.same("one that is not in force on that day", x.why(deed), 202);
    Due.text(x, 20, "undo 2;");
    due.same("one that is undone", x.why(deed), 100);
  }

  private static void struck(Due due) {
    due.about(0, "a strike of its ACT takes away what was said of that ACT so far (the fine, too)");
    ForestCourts x = woods();
    int deed = x.deed(0, 0, 500, 500, 0, 5);
    int other = x.deed(0, 1, 500, 500, 0, 5);
    Due.text(x, 0, "bar cut;fine cut=9;bar hunt;fine hunt=8;strike cut;");
    due.same("struck in the same text", x.why(deed), -1);
    due.same("the fine, too", x.fine(deed), 5);
    due.fails("no longer barred", x.barred(deed));
    due.same("not another act", x.why(other), 102);
    due.same("nor its fine", x.fine(other), 8);
    Due.text(x, 0, "fine cut=7;strike cut;bar cut;fine cut=6;strike hunt;");
    due.same("what is said behind the strike", x.why(deed), 202);
    due.same("its fine", x.fine(deed), 6);
    due.same("struck by a later text", x.why(other), -1);
    Due.text(x, 0, "strike cut;fine cut=4;");
    due.same("only a fine behind it", x.why(deed), -1);
    due.same("that fine", x.fine(deed), 4);
    Due.text(x, 0, "undo 3;");
    due.same("a strike that is undone", x.why(deed), 202);
    due.same("its fine", x.fine(deed), 6);
    Due.text(x, 1, "strike cut;");
    due.same("a strike of a later day", x.why(deed), 202);
  }

  private static void barsAndAllows(Due due) {
    due.about(0, "a bar or allow of it, whose C holds (or without C), is the WORD from then on.");
    ForestCourts x = woods();
    int deed = x.deed(1, 0, 500, 500, 0, 5);
    int other = x.deed(1, 1, 500, 500, 0, 5);
    Due.text(x, 0, "bar cut if many=5;allow cut if many=6;bar cut if many<5;allow hunt;bar hunt if rank>1;");
    due.same("those whose C does not hold say nothing", x.why(deed), 100);
    due.holds("barred", x.barred(deed));
    due.same("another act", x.why(other), 103);
    Due.text(x, 0, "allow cut if many>5;bar cut if many=5;allow cut if many=4;bar hunt;");
    due.same("the last that holds", x.why(deed), 201);
    due.same("of another act", x.why(other), 203);
    Due.text(x, 0, "allow cut;");
    due.same("without C", x.why(deed), 300);
    due.fails("allowed", x.barred(deed));
  }

  private static void textsOfItsDay(Due due) {
    due.about(0, "by the TEXTS IN FORCE on its DAY");
    ForestCourts x = woods();
    x.wait(100);
    x.deed(0, 2, 500, 500, 50, 1);
    Due.text(x, 51, "bar dogs;fine dogs=9;");
    due.same("not of its day", x.why(0), -1);
    due.same("nor its fine", x.fine(0), 1);
    Due.text(x, 50, "bar dogs;fine dogs=8;");
    due.same("of its day, though told later", x.why(0), 200);
    due.same("its fine", x.fine(0), 8);
    Due.text(x, 51, "undo 2;");
    due.same("undone the day behind", x.why(0), 200);
    Due.text(x, 50, "undo 2;");
    due.same("undone on its day", x.why(0), -1);
    due.same("its fine, too", x.fine(0), 1);
  }

  private static void barredAt(Due due) {
    due.about(0, "BARRED is a DEED at a place IN or DOUBTFUL");
    due.about(23, "Whether a DEED is BARRED.");
    ForestCourts x = woods();
    Due.text(x, 0, "bar cut;");
    x.deed(0, 0, 101, 500, 0, 1);
    x.deed(0, 0, 100, 500, 0, 1);
    x.deed(0, 0, 99, 500, 0, 1);
    due.holds("in", x.barred(0));
    due.holds("on a side", x.barred(1));
    due.fails("out", x.barred(2));
    due.same("the word on it all the same", x.why(2), 100);
    x.strip(1);
    due.holds("near a side by the strip now", x.barred(2));
    due.holds("near it within", x.barred(0));
    x.strip(0);
    due.fails("out again", x.barred(2));
    x.wait(5);
    x.deed(0, 0, 500, 500, 5, 1);
    x.unring(0, 5);
    due.holds("by the bounds of its day", x.barred(0));
    due.fails("no bounds on its day", x.barred(3));
    x.unring(0, 0);
    due.fails("undone for its day", x.barred(0));
  }

  private static void lastWordIsBar(Due due) {
    due.about(0, "if the last WORD is bar");
    ForestCourts x = woods();
    int deed = x.deed(1, 0, 500, 500, 0, 5);
    due.fails("no word", x.barred(deed));
    Due.text(x, 0, "bar cut;");
    due.holds("bar", x.barred(deed));
    Due.text(x, 0, "allow cut;");
    due.fails("allow behind bar", x.barred(deed));
    Due.text(x, 0, "allow cut;bar cut;");
    due.holds("bar behind allow", x.barred(deed));
    Due.text(x, 0, "strike cut;");
    due.fails("struck", x.barred(deed));
    Due.text(x, 0, "fine cut=1;use 1;courts 1 1 1;heirs owe;strike hunt;");
    due.fails("others say nothing of it", x.barred(deed));
  }

  private static void why(Due due) {
    due.about(24, "The WORD on a DEED: 100 times its TEXT, and its CLAUSE (from 0 on); NONE: none.");
    ForestCourts x = woods();
    int deed = x.deed(0, 0, 500, 500, 0, 1);
    due.same("none", x.why(deed), -1);
    for (int text = 1; text < 10; text++) {
      StringBuilder clauses = new StringBuilder();
      for (int k = 0; k < text + 2; k++) {
        clauses.append("use 1;");
      }
      Due.text(x, 0, clauses + (text % 2 == 0 ? "bar cut;" : "allow cut;"));
      due.same("text " + text, x.why(deed), 100 * text + text + 2);
    }
    ForestCourts y = Due.woods("bar cut;", 0);
    due.same("the first clause of the first text", y.why(y.deed(0, 0, 500, 500, 0, 1)), 0);
    due.same("another act", y.why(y.deed(0, 1, 500, 500, 0, 1)), -1);
    due.same("wherever it is done", y.why(y.deed(0, 0, 5, 5, 0, 1)), 0);
  }

  private static void leastAndMostFine(Due due) {
    due.about(0, "FINE of a DEED: the VALUE of the last E told so for its ACT, 0 to 10,000 (less is 0, more 10,000)");
    due.about(25, "FINE.");
    String[] told = {"0-1", "0", "1", "9999", "9999+1", "9999+2", "0-9999*9999", "9999*9999"};
    int[] want = {0, 0, 1, 9999, 10000, 10000, 0, 10000};
    for (int k = 0; k < told.length; k++) {
      due.same(told[k], value(told[k]), want[k]);
    }
  }

  private static void lastFine(Due due) {
    due.about(0, "the VALUE of the last E told so for its ACT");
    ForestCourts x = woods();
    int deed = x.deed(0, 0, 5, 5, 0, 3);
    Due.text(x, 0, "fine cut=9;fine cut=many*2;fine hunt=7;");
    due.same("the last of a text", x.fine(deed), 6);
    Due.text(x, 0, "fine cut=5;bar cut;allow cut;");
    due.same("of the last text", x.fine(deed), 5);
    Due.text(x, 0, "fine hunt=4;");
    due.same("not of another act", x.fine(deed), 5);
    Due.text(x, 0, "fine cut=0-5;");
    due.same("one below 0 is the last all the same", x.fine(deed), 0);
  }

  private static void withoutFine(Due due) {
    due.about(0, "without one MANY.");
    ForestCourts x = woods();
    due.same("1", x.fine(x.deed(0, 0, 5, 5, 0, 1)), 1);
    due.same("1000", x.fine(x.deed(0, 0, 500, 500, 0, 1000)), 1000);
    Due.text(x, 0, "bar cut;fine hunt=5;");
    due.same("a word is no fine", x.fine(1), 1000);
    Due.text(x, 0, "fine cut=5;strike cut;");
    due.same("struck", x.fine(1), 1000);
  }
}
