/** Promises 13 (text) and 14 (fault): the small language. */
public final class TextsTest {
  private static final String TWELVE = "use 1;use 2;use 3;use 4;use 5;use 6;use 7;use 8;use 9;use 10;use 11;use 12;";
  private static final String[] ACTS = {"cut", "hunt", "dogs", "swine", "clear", "build"};

  public static void main(String[] args) {
    Due due = new Due();
    clauses(due);
    acts(due);
    conditions(due);
    values(due);
    numbers(due);
    earlierTexts(due);
    words(due);
    blanks(due);
    betweenNumbers(due);
    twelveClauses(due);
    theFirstFault(due);
    misplaced(due);
    tooEarly(due);
    foreignBytes(due);
    noneSuch(due);
    thirteenth(due);
    ninth(due);
    openAtOneTime(due);
    theLeastOfOne(due);
    tenTexts(due);
    noText(due);
    restOfTheTape(due);
    nothingStays(due);
    manyFaulty(due);
    fullTape(due);
    latestFault(due);
    due.end();
  }

  private static void good(Due due, String text) {
    ForestCourts x = new ForestCourts();
    due.same("\"" + text + "\"", Due.text(x, 0, text), 0);
    due.same("its fault", x.fault(), -1);
    due.same("it is there", x.count(3), 1);
    due.same("the tape is empty", x.count(13), 0);
  }

  private static void bad(Due due, String text, int fault, int place) {
    ForestCourts x = new ForestCourts();
    due.same("\"" + text + "\"", Due.text(x, 0, text), fault - 10);
    due.same("the fault of \"" + text + "\"", x.fault(), place);
    due.same("it is none", x.count(3), 0);
    due.same("the tape is empty", x.count(13), 0);
  }

  private static void clauses(Due due) {
    due.about(0, "each from a DAY on: { CLAUSE \";\" }; CLAUSE: \"bar\" ACT, \"allow\" ACT, each perhaps \"if\" C; \"strike\" ACT; "
        + "\"fine\" ACT \"=\" E; \"undo\" N; \"heirs\" and \"owe\" or \"free\"; \"courts\" N N N; \"use\" N.");
    good(due, "");
    good(due, "bar cut;");
    good(due, "allow build if 1<2;");
    good(due, "bar build if 1<2;");
    good(due, "allow build;");
    good(due, "strike swine;");
    good(due, "fine clear=1;fine hunt = many ;");
    good(due, "heirs owe;heirs free;");
    good(due, "courts 1 4000 1;courts1 2 3;use60;");
    bad(due, ";", 1, 0);
    bad(due, "bar cut;;", 1, 8);
    bad(due, "strike cut if 1<2;", 1, 11);
    bad(due, "fine cut;", 1, 8);
    bad(due, "fine=1;", 1, 4);
    bad(due, "heirs owe free;", 1, 10);
    bad(due, "heirs;", 1, 5);
    bad(due, "heirs 1;", 1, 6);
    bad(due, "owe;", 1, 0);
    bad(due, "if 1<2;", 1, 0);
    bad(due, "undo;", 1, 4);
    bad(due, "undo many;", 1, 5);
    bad(due, "use;", 1, 3);
    bad(due, "use many;", 1, 4);
    bad(due, "courts;", 1, 6);
    bad(due, "courts 1;", 1, 8);
    bad(due, "courts 1 2;", 1, 10);
    bad(due, "courts 1 2 3 4;", 1, 13);
    bad(due, "courts 1,2,3;", 1, 8);
  }

  private static void acts(Due due) {
    due.about(0, "ACT: \"cut\" (0), \"hunt\" (1), \"dogs\" (2), \"swine\" (3), \"clear\" (4), \"build\" (5).");
    for (int act = 0; act < 6; act++) {
      ForestCourts x = Due.woods("bar " + ACTS[act] + ";fine " + ACTS[act] + "=9;", 0);
      for (int done = 0; done < 6; done++) {
        int deed = x.deed(0, done, 500, 500, 0, 1);
        due.same(ACTS[act] + ", done " + ACTS[done], x.why(deed), act == done ? 0 : -1);
        due.same("the fine of " + ACTS[act] + ", done " + ACTS[done], x.fine(deed), act == done ? 9 : 1);
      }
      due.same("strike", Due.text(x, 0, "strike " + ACTS[act] + ";"), 1);
      due.same("struck", x.why(act), -1);
    }
    bad(due, "bar many;", 1, 4);
    bad(due, "bar 1;", 1, 4);
    bad(due, "bar;", 1, 3);
    bad(due, "strike owe;", 1, 7);
    bad(due, "allow;", 1, 5);
  }

  private static void conditions(Due due) {
    due.about(0, "C: A { \"or\" A }. A: B { \"and\" B }. B: \"not\" B, \"[\" C \"]\", or E R E; R: <, > or =.");
    good(due, "bar dogs if1<2and 1<2or 3<4;");
    good(due, "bar dogs if not not[1<2]and[[in=1]or doubt=1];");
    good(due, "bar cut if 1<2 or 1>2 or 1=2 and 1<2 and 1>2;");
    bad(due, "bar cut if;", 1, 10);
    bad(due, "bar cut iff 1<2;", 1, 8);
    bad(due, "bar cut 1<2;", 1, 8);
    bad(due, "bar cut if 1;", 1, 12);
    bad(due, "bar cut if 1<;", 1, 13);
    bad(due, "bar cut if <1;", 1, 11);
    bad(due, "bar cut if 1<2<3;", 1, 14);
    bad(due, "bar cut if 1<2 and;", 1, 18);
    bad(due, "bar cut if 1<2 or;", 1, 17);
    bad(due, "bar cut if 1<2 and or 1<2;", 1, 19);
    bad(due, "bar cut if or 1<2;", 1, 11);
    bad(due, "bar cut if (1<2);", 1, 13);
    bad(due, "bar cut if [1];", 1, 13);
    bad(due, "bar cut if [];", 1, 12);
    bad(due, "bar cut if [1<2];]", 1, 17);
    bad(due, "bar cut if 1<2];", 1, 14);
    bad(due, "bar cut if [1<2)", 1, 15);
    bad(due, "bar cut if not;", 1, 14);
    bad(due, "bar cut if 1 not<2;", 1, 13);
    bad(due, "bar cut if 1==2;", 1, 13);
    bad(due, "bar cut if 1<=2;", 1, 13);
    bad(due, "bar cut if 1<2 hunt;", 1, 15);
    bad(due, "bar cut if cut<2;", 1, 11);
    bad(due, "bar cut if 1<2 if 1<2;", 1, 15);
  }

  private static void values(Due due) {
    due.about(0, "E: T { + or - T }. T: U { * or / U }. U: N, \"many\", \"month\", \"rank\", \"year\", \"in\", \"doubt\", \"(\" E \")\", "
        + "or \"least\" or \"most\" \"(\" E \",\" E \")\".");
    good(due, "fine cut=most(1,least(many,month))*(rank+year-in/doubt);");
    good(due, "fine cut=1+2-3*4/5;fine cut=(((1)));");
    bad(due, "fine cut=;", 1, 9);
    bad(due, "fine cut=1 2;", 1, 11);
    bad(due, "fine cut=1<2;", 1, 10);
    bad(due, "fine cut=-1;", 1, 9);
    bad(due, "fine cut=+1;", 1, 9);
    bad(due, "fine cut=1+;", 1, 11);
    bad(due, "fine cut=1*;", 1, 11);
    bad(due, "fine cut=1++2;", 1, 11);
    bad(due, "fine cut=1*/2;", 1, 11);
    bad(due, "fine cut=();", 1, 10);
    bad(due, "fine cut=(1;", 1, 11);
    bad(due, "fine cut=1);", 1, 10);
    bad(due, "fine cut=[1];", 1, 9);
    bad(due, "fine cut=(1];", 1, 11);
    bad(due, "fine cut=least 1;", 1, 15);
    bad(due, "fine cut=least(1;", 1, 16);
    bad(due, "fine cut=least(1);", 1, 16);
    bad(due, "fine cut=least(,1);", 1, 15);
    bad(due, "fine cut=least(1,);", 1, 17);
    bad(due, "fine cut=most(1,2,3);", 1, 17);
    bad(due, "fine cut=1,2;", 1, 10);
    bad(due, "fine cut=not;", 1, 9);
    bad(due, "fine cut=cut;", 1, 9);
    bad(due, "fine cut=manymany;", 1, 9);
  }

  private static void numbers(Due due) {
    due.about(0, "N: digits, as many as stand there, 0 to 9,999 (of courts 1 to 4,000; of use 1 to 60; "
        + "of undo the number of an earlier TEXT).");
    good(due, "fine cut=0;fine cut=9999;");
    good(due, "fine cut=00009999;fine cut=000000000000000000000000000;");
    good(due, "courts 1 1 1;courts 4000 4000 4000;courts 0001 02 000000000000000003;");
    good(due, "use 1;use 60;use 0060;");
    bad(due, "fine cut=10000;", 2, 9);
    bad(due, "fine cut=010000;", 2, 9);
    for (int at = 0; at < 3; at++) {
      for (String none : new String[] {"0", "000", "4001", "10000", "4294967297"}) {
        String[] n = {"1", "1", "1"};
        n[at] = none;
        bad(due, "courts " + n[0] + " " + n[1] + " " + n[2] + ";", 2, 7 + 2 * at);
      }
    }
    for (String none : new String[] {"0", "61", "00061", "4000", "10000", "4294967297"}) {
      bad(due, "use " + none + ";", 2, 4);
    }
    ForestCourts x = new ForestCourts();
    Due.text(x, 0, "courts 4000 0001 4000;use 60;");
    int[] want = {4000, 1, 4000, 60};
    for (int what = 0; what < 4; what++) {
      due.same("rule " + what, x.rule(0, what), want[what]);
    }
  }

  private static void earlierTexts(Due due) {
    due.about(0, "of undo the number of an earlier TEXT");
    bad(due, "undo 0;", 2, 5);
    ForestCourts x = new ForestCourts();
    for (int k = 0; k < 10; k++) {
      due.same("of itself", Due.text(x, 0, "undo " + k + ";"), -8);
      due.same("its place", x.fault(), 5);
      due.same("of the one behind it", Due.text(x, 0, "undo " + (k + 1) + ";"), -8);
      due.same("of the first", Due.text(x, 0, k == 0 ? "" : "undo 0;undo " + (k - 1) + ";undo 000;"), k);
    }
    ForestCourts y = new ForestCourts();
    Due.text(y, 100, "");
    due.same("of an earlier one from a later day", Due.text(y, 0, "undo 0;"), 1);
    due.same("of none such", Due.text(y, 0, "undo 1;undo 2;undo 3;"), -8);
    due.same("at its number", y.fault(), 12);
  }

  private static void words(Due due) {
    due.about(0, "WORDS: small letters, as many as stand there");
    bad(due, "barcut;", 1, 0);
    bad(due, "bar cuts;", 1, 4);
    bad(due, "bar cu;", 1, 4);
    bad(due, "ba;", 1, 0);
    bad(due, "bars cut;", 1, 0);
    bad(due, "heirs owefree;", 1, 6);
    bad(due, "heirsowe;", 1, 0);
    bad(due, "Use 1;", 1, 0);
    bad(due, "BAR CUT;", 1, 0);
    bad(due, "bar Cut;", 1, 4);
    bad(due, "bar cUt;", 1, 4);
    bad(due, "bar cutS;", 1, 7);
    bad(due, "bar cut if 1<2 ornot 1<2;", 1, 15);
    good(due, "bar cut if not[1<2]or[1<2]and not 1<2;");
    good(due, "bar cut if1<2or 1<2and 2=many;");
    bad(due, "bar cut if1<2or1<2and2=many2;", 1, 27);
    good(due, "use1;courts1 2 3;");
  }

  private static void blanks(Due due) {
    due.about(0, "blanks (32) may stand ahead of all these, and at the end");
    good(due, " ");
    good(due, "   ");
    good(due, "  bar   cut  ;  ");
    good(due, " bar cut if not [ 1 + 2 * many < ( 3 - 4 / 5 ) ] and least ( 1 , 2 ) = most ( 3 , 4 ) or 1 > 2 ; ");
    good(due, " fine   cut   =   1   ; heirs   owe ; courts   1   2   3 ; use   1 ; strike   hunt ; allow   build ; ");
    bad(due, "  bar   cuts", 1, 8);
    bad(due, "   ;", 1, 3);
    bad(due, "use  61;", 2, 5);
    due.about(0, "1 what can't stand there");
    for (char none : new char[] {'\t', '\n', '\r', 0, 31, 33, 160, 255}) {
      bad(due, "use" + none + "1;", 1, 3);
      bad(due, "use 1" + none + ";", 1, 5);
      bad(due, "use 1;" + none, 1, 6);
      bad(due, none + "use 1;", 1, 0);
    }
  }

  private static void betweenNumbers(Due due) {
    due.about(0, "one at least between two N.");
    good(due, "courts 1 2 3;");
    bad(due, "courts 12 3;", 1, 11);
    bad(due, "courts 123;", 1, 10);
    bad(due, "courts 1 23;", 1, 11);
    ForestCourts x = new ForestCourts();
    Due.text(x, 0, "courts12  34  56;");
    due.same("the first", x.rule(0, 0), 12);
    due.same("the second", x.rule(0, 1), 34);
    due.same("the third", x.rule(0, 2), 56);
  }

  private static void twelveClauses(Due due) {
    due.about(0, "At most 12 CLAUSES.");
    good(due, TWELVE);
    good(due, TWELVE + "  ");
    ForestCourts x = new ForestCourts();
    Due.text(x, 0, TWELVE);
    due.same("the twelfth tells", x.rule(0, 3), 12);
    due.same("twelve of each text", Due.text(x, 0, TWELVE), 1);
    ForestCourts y = Due.woods("bar cut;".repeat(12), 0);
    y.deed(0, 0, 500, 500, 0, 1);
    due.same("the twelfth clause of the first text", y.why(0), 11);
    for (int text = 1; text < 10; text++) {
      due.same("text " + text + " of twelve", Due.text(y, 0, "bar cut;".repeat(12)), text);
      due.same("its twelfth clause", y.why(0), 100 * text + 11);
    }
  }

  private static void theFirstFault(Due due) {
    due.about(0, "FAULTS, the first from the left, at its first byte");
    bad(due, "use 0;use;", 2, 4);
    bad(due, "use;use 0;", 1, 3);
    bad(due, "courts 4001 x", 2, 7);
    bad(due, "courts x 4001", 1, 7);
    bad(due, "bar cut if [[[[[[[[[99999", 3, 19);
    bad(due, "bar cut if [[[99999[[[[[[", 2, 14);
    bad(due, "undo 12345678901234567890;", 2, 5);
    bad(due, "bar xyzxyz;", 1, 4);
    bad(due, TWELVE + "use 99999;", 3, TWELVE.length());
    // behind a fault nothing is read any more, even if it could go on from there
    bad(due, "fine cut=1++2 2;", 1, 11);
    bad(due, "fine cut=1+-2!", 1, 11);
    bad(due, "fine cut=1**2 2;", 1, 11);
    bad(due, "fine cut=1*/99999;", 1, 11);
    bad(due, "fine cut=1+10000+10001;", 2, 11);
    bad(due, "fine cut=1*10000*10001;", 2, 11);
    bad(due, "fine cut=10000+(;", 2, 9);
    bad(due, "bar cut if 1<2 and and 1<2 x;", 1, 19);
    bad(due, "bar cut if 1<2 or or 1<2 x;", 1, 18);
    bad(due, "bar cut if 1 and 1<2 x;", 1, 13);
    bad(due, "bar cut if 1 or 1<2 x;", 1, 13);
    bad(due, "bar cut if [1 and 1<2] x;", 1, 14);
    bad(due, "fine cut=least(1++2,3) x;", 1, 17);
    bad(due, "fine cut=(10000)*x;", 2, 10);
    bad(due, "courts 0 4001 x;", 2, 7);
    bad(due, "courts 1 4001 0;", 2, 9);
    bad(due, "courts 1 ;2 3!", 1, 9);
    bad(due, "use 0;use 1;!", 2, 4);
    bad(due, "bar owe;bar cut!", 1, 4);
    bad(due, "heirs cut;!", 1, 6);
    due.about(13, "or its FAULT less 10");
    due.about(14, "The place of the FAULT of the latest text()");
    bad(due, "x", 1, 0);
    bad(due, "use 0", 2, 4);
    bad(due, "fine cut=(((((((((", 3, 17);
  }

  private static void misplaced(Due due) {
    due.about(0, "1 what can't stand there (at the length, if the text ends too early)");
    bad(due, "undo", 1, 4);
    bad(due, "use 1 2;", 1, 6);
    bad(due, "use 1!;", 1, 5);
    bad(due, "use -1;", 1, 4);
    bad(due, "use 1.5;", 1, 5);
    bad(due, "use 5x;", 1, 5);
    bad(due, "fine cut=2many;", 1, 10);
    bad(due, "fine cut=many2;", 1, 13);
    bad(due, "use 1;bar cut;x", 1, 14);
  }

  private static void tooEarly(Due due) {
    due.about(0, "at the length, if the text ends too early");
    // wherever one of these ends behind a word, a number or a sign, something must follow, but behind a ;
    String[] texts = {"bar cut if not[many+1*2<(3)]or least(1,2)=4;", "fine hunt=most(year,9)-(in);", "courts 1 2 3;", "heirs owe;",
      "strike dogs;", "use 7;"};
    for (String text : texts) {
      for (int end = 1; end < text.length(); end++) {
        if (inWord(text, end) || text.charAt(end - 1) == ' ') {
          continue;
        }
        bad(due, text.substring(0, end), 1, end);
        bad(due, text.substring(0, end) + "  ", 1, end + 2);
        bad(due, "use 1;" + text.substring(0, end), 1, end + 6);
      }
      good(due, text);
    }
    ForestCourts x = new ForestCourts();
    Due.text(x, 0, "");
    due.same("undo", Due.text(x, 0, "undo 0"), -9);
    due.same("at the length", x.fault(), 6);
    due.about(13, "The first n bytes of the TAPE (empty then) are a TEXT from a DAY on");
    Due.feed(x, "use 1;".chars().toArray());
    due.same("cut by n", x.text(0, 5), -9);
    due.same("at n, not at the tape's end", x.fault(), 5);
    Due.feed(x, "use 123;".chars().toArray());
    due.same("a number cut by n", x.text(0, 5), -9);
    due.same("at n", x.fault(), 5);
    Due.feed(x, "bar cuts;".chars().toArray());
    due.same("a word cut by n", x.text(0, 7), -9);
    due.same("at n", x.fault(), 7);
  }

  /** Whether a word or a number goes on at that place. */
  private static boolean inWord(String text, int at) {
    boolean letters = Character.isLetter(text.charAt(at)) && Character.isLetter(text.charAt(at - 1));
    return letters || Character.isDigit(text.charAt(at)) && Character.isDigit(text.charAt(at - 1));
  }

  private static void foreignBytes(Due due) {
    due.about(0, "1 what can't stand there");
    // what no text has anywhere, put at each place where a word, a number or a sign begins
    String text = "bar cut if not[many<(3)]or least(1,2)=4;";
    for (int at = 0; at < text.length(); at++) {
      if (text.charAt(at) == ' ' || at > 0 && inWord(text, at)) {
        continue;
      }
      for (char none : new char[] {0, '_', 'A', '{', '`', ':', 128, 176, 225, 255}) {
        bad(due, text.substring(0, at) + none + text.substring(at + 1), 1, at);
      }
    }
  }

  private static void noneSuch(Due due) {
    due.about(0, "2 an N that is none such");
    bad(due, "fine cut= 99999999999999999999;", 2, 10);
    bad(due, "fine cut=4294967297;", 2, 9);
    bad(due, "fine cut=18446744073709551617;", 2, 9);
    bad(due, "fine cut=2147483648;", 2, 9);
    bad(due, "fine cut=1+10000;", 2, 11);
    bad(due, "fine cut=(10000", 2, 10);
    bad(due, "bar cut if 1<10000;", 2, 13);
    bad(due, "bar cut if 10000", 2, 11);
    bad(due, "fine cut=least(1,10000);", 2, 17);
    bad(due, "use 1;undo 12345;", 2, 11);
  }

  private static void thirteenth(Due due) {
    due.about(0, "3 a 13th CLAUSE");
    for (String more : new String[] {"use 1;", "use", "bar cut;", "allow", "strike", "fine cut=1;", "undo 0;", "heirs", "courts", "bar 9"}) {
      bad(due, TWELVE + more, 3, TWELVE.length());
      bad(due, TWELVE + "  " + more, 3, TWELVE.length() + 2);
    }
  }

  private static void ninth(Due due) {
    due.about(0, "or a 9th of ( [ and not that is open at one time (a not till its B ends)");
    good(due, "bar cut if[[[[[[[[1<2]]]]]]]];");
    good(due, "bar cut if not not not not not not not not 1<2;");
    good(due, "fine cut=((((((((1))))))));");
    good(due, "fine cut=least(least(least(least(least(least(least(least(1,2),2),2),2),2),2),2),2);");
    good(due, "bar cut if not not not not[[[[1<2]]]]and not not not not(((1)))<((((2))));");
    bad(due, "bar cut if [[[[[[[[[1<2]]]]]]]]];", 3, 19);
    bad(due, "bar cut if not not not not not not not not not 1<2;", 3, 43);
    bad(due, "fine cut=(((((((((1)))))))));", 3, 17);
    bad(due, "fine cut=((((((((least(1,2)))))))));", 3, 22);
    bad(due, "fine cut=((((((((most  (1,2)))))))));", 3, 23);
    bad(due, "bar cut if [[[[[[[[ not 1<2]]]]]]]];", 3, 20);
    bad(due, "bar cut if [[[[[[[[  (1)<2]]]]]]]];", 3, 21);
    bad(due, "bar cut if [[[[[[[[1< (2)]]]]]]]];", 3, 22);
    bad(due, "bar cut if not not not not not not not not [1<2];", 3, 43);
    bad(due, "bar cut if not not not not not not not not (1)<2;", 3, 43);
    bad(due, "bar cut if not[not[not[not[(1)<2]]]];", 3, 27);
    bad(due, "fine cut=((((((((1))))))))+(((((((((1)))))))));", 3, 35);
    bad(due, "fine cut=((((((((1+(1)))))))));", 3, 19);
  }

  private static void openAtOneTime(Due due) {
    due.about(0, "that is open at one time (a not till its B ends)");
    StringBuilder nots = new StringBuilder("bar cut if not 1<2");
    StringBuilder brackets = new StringBuilder("bar cut if[1<2]");
    StringBuilder sums = new StringBuilder("fine cut=(1)");
    for (int k = 0; k < 9; k++) {
      nots.append(k % 2 == 0 ? " and not 1<2" : " or not 1<2");
      brackets.append(k % 2 == 0 ? "and[1<2]" : "or[1<2]");
      sums.append(k % 2 == 0 ? "+(1)*(1)" : "-least(1,1)/most(1,1)");
    }
    good(due, nots + ";");
    good(due, brackets + ";");
    good(due, sums + ";");
    // within both parts of one least its ( is open; behind it no longer
    good(due, "fine cut=((((((least((1),(1))))))));");
    bad(due, "fine cut=(((((((least((1),1))))))));", 3, 22);
    bad(due, "fine cut=(((((((least(1,(1)))))))));", 3, 24);
    good(due, "fine cut=(((((((least(1,1)+(1))))))));");
    // a not is open within both parts of what it denies, and not behind it
    bad(due, "bar cut if [[[[[[[not (1)<2]]]]]]];", 3, 22);
    bad(due, "bar cut if [[[[[[[not 1<(2)]]]]]]];", 3, 24);
    good(due, "bar cut if [[[[[[[not 1<2 and(2)=2]]]]]]];");
    good(due, "bar cut if [[[[[[[not 1<2 or[2=2]]]]]]]];");
    good(due, "bar cut if [[[[[[not[1<2]and[(2)=2]]]]]]];");
    bad(due, "bar cut if [[[[[[not[(1)<2]and(2)=2]]]]]];", 3, 21);
  }

  private static void theLeastOfOne(Due due) {
    due.about(0, "of one the least.");
    bad(due, TWELVE + "uses", 1, TWELVE.length());
    bad(due, TWELVE + "cut", 1, TWELVE.length());
    bad(due, TWELVE + ";", 1, TWELVE.length());
    bad(due, TWELVE + "1", 1, TWELVE.length());
    bad(due, TWELVE + "99999", 1, TWELVE.length());
    bad(due, TWELVE + "(", 1, TWELVE.length());
    bad(due, "bar 99999;", 1, 4);
    bad(due, "99999;", 1, 0);
    bad(due, "use 1 99999;", 1, 6);
    bad(due, "courts 1 2 3 99999;", 1, 13);
    bad(due, "bar cut if [[[[[[[[1[", 1, 20);
    bad(due, "bar cut if [[[[[[[[1(", 1, 20);
    bad(due, "bar cut if [[[[[[[[1 not", 1, 21);
    bad(due, "fine cut=((((((((least 1", 1, 23);
    bad(due, "fine cut=((((((((least[", 1, 22);
    bad(due, "fine cut=((((((((not", 1, 17);
    bad(due, "fine cut=((((((((1(", 1, 18);
  }

  private static void tenTexts(Due due) {
    due.about(0, "TEXTS, numbered from 0 on, 10 at most");
    due.about(13, "its number");
    ForestCourts x = new ForestCourts();
    for (int k = 0; k < 10; k++) {
      due.same("a faulty one", Due.text(x, 0, "use"), -9);
      due.same("text " + k, Due.text(x, 100000 - k, "use 1;"), k);
      due.same("texts", x.count(3), k + 1);
    }
    due.about(13, "-1: there are 10.");
    due.same("an 11th", Due.text(x, 0, "use 2;"), -1);
    due.same("no fault", x.fault(), -1);
    due.same("the tape is empty", x.count(13), 0);
    due.same("an 11th of nothing", x.text(0, 0), -1);
    due.same("10 are there", x.count(3), 10);
    due.same("it tells nothing", x.rule(0, 3), 20);
  }

  private static void noText(Due due) {
    due.about(13, "IllegalArgumentException: the DAY, or n.");
    ForestCourts x = new ForestCourts();
    due.only("n of an empty tape", 0, 0, n -> x.text(0, n));
    Due.feed(x, "use 1;              ".chars().toArray());
    due.only("day", 0, 100000, n -> x.text(n, 6));
    due.only("n of a tape of 20", 0, 20, n -> x.text(0, n));
    due.same("the tape is as it was", x.count(13), 20);
    due.same("no text", x.count(3), 0);
    due.same("all of it", x.text(0, 20), 0);
    due.same("from the last day on", Due.text(x, 100000, "use 2;"), 1);
    due.same("use on the day ahead", x.rule(99999, 3), 1);
    due.same("use on the last day", x.rule(100000, 3), 2);
    for (int k = 0; k < 8; k++) {
      Due.text(x, 0, "");
    }
    due.only("day of an 11th", 0, 100000, n -> x.text(n, 0));
    due.only("n of an 11th", 0, 0, n -> x.text(0, n));
  }

  private static void restOfTheTape(Due due) {
    due.about(13, "The first n bytes of the TAPE (empty then)");
    ForestCourts x = new ForestCourts();
    Due.feed(x, "use 1;use 2;use 3;use 4;".chars().toArray());
    due.same("two of four", x.text(0, 12), 0);
    due.same("the second", x.rule(0, 3), 2);
    due.same("none is left", x.count(13), 0);
    Due.feed(x, "x".chars().toArray());
    due.same("none of what is there", x.text(0, 0), 1);
    due.same("none is left", x.count(13), 0);
  }

  private static void nothingStays(Due due) {
    due.about(13, "its number, or its FAULT less 10");
    ForestCourts x = Due.woods("", 0);
    x.deed(0, 0, 500, 500, 0, 3);
    due.same("two good clauses and a fault", Due.text(x, 0, "bar cut;fine cut=9;use 5;heirs free;courts 1 1 1;!"), -9);
    due.same("another text", Due.text(x, 0, "bar hunt;"), 1);
    due.same("no word of the faulty one", x.why(0), -1);
    due.same("nor its fine", x.fine(0), 3);
    due.same("nor its use", x.rule(0, 3), 20);
    due.same("nor its heirs", x.rule(0, 4), 1);
    due.same("nor its courts", x.rule(0, 0), 40);
    due.same("a good one", Due.text(x, 0, "bar cut;fine cut=8;"), 2);
    due.same("a fault behind an undo", Due.text(x, 0, "undo 2;x"), -9);
    due.same("another one", Due.text(x, 0, ""), 3);
    due.holds("nothing is undone", x.force(2, 0));
    due.same("its word", x.why(0), 200);
    due.same("its fine", x.fine(0), 8);
  }

  private static void manyFaulty(Due due) {
    due.about(13, "its number, or its FAULT less 10");
    // what a faulty text told takes no room from those that come later
    ForestCourts x = Due.woods("", 0);
    x.deed(0, 0, 500, 500, 0, 1);
    for (int k = 0; k < 14; k++) {
      due.same("a long faulty text", Due.text(x, 0, "fine cut=" + "1+".repeat(194) + "12!"), -9);
    }
    due.same("a long good text", Due.text(x, 0, "fine cut=" + "1+".repeat(194) + "12;"), 1);
    due.same("its fine", x.fine(0), 206);
    ForestCourts y = Due.woods("", 0);
    y.deed(0, 0, 500, 500, 0, 1);
    for (int k = 0; k < 20; k++) {
      due.same("a thirteenth clause", Due.text(y, 0, "bar cut;".repeat(13)), -7);
    }
    due.same("twelve good clauses", Due.text(y, 0, "bar cut;".repeat(12)), 1);
    due.same("the word is the last of them", y.why(0), 111);
  }

  private static void fullTape(Due due) {
    due.about(0, "1 what can't stand there (at the length, if the text ends too early)");
    String all = "bar cut if " + "1+".repeat(193) + "1<2";
    bad(due, all, 1, 400);
    bad(due, (" " + all).substring(0, 399) + ";", 1, 399);
    String whole = "fine cut=" + "1+".repeat(194) + "12;";
    due.same("its length", whole.length(), 400);
    ForestCourts x = Due.woods(whole, 0);
    x.deed(0, 0, 500, 500, 0, 1);
    due.same("its fine", x.fine(0), 206);
    for (int k = 1; k < 10; k++) {
      due.same("one more", Due.text(x, 0, whole), k);
    }
    due.same("its fine still", x.fine(0), 206);
    good(due, " ".repeat(400));
    good(due, "use " + "0".repeat(394) + "1;");
    good(due, "bar cut if " + "1=1or ".repeat(64) + "1=1 ;");
    good(due, "bar cut if " + "1=1and ".repeat(54) + "1=1  ;");
    good(due, "fine cut=" + "1*".repeat(194) + "12;");
    bad(due, "use" + " ".repeat(397), 1, 400);
  }

  private static void latestFault(Due due) {
    due.about(14, "The place of the FAULT of the latest text(); NONE without.");
    ForestCourts x = new ForestCourts();
    due.same("no text yet", x.fault(), -1);
    Due.text(x, 0, "use 1;x");
    due.same("a faulty one", x.fault(), 6);
    due.same("asked again", x.fault(), 6);
    due.argument("one that is refused", () -> x.text(0, 1));
    due.same("the fault of the latest text", x.fault(), 6);
    Due.text(x, 0, "y");
    due.same("another faulty one", x.fault(), 0);
    Due.text(x, 0, "use 1;");
    due.same("a good one", x.fault(), -1);
    Due.text(x, 0, "use 0;");
    due.same("a faulty one", x.fault(), 4);
    for (int k = 0; k < 9; k++) {
      Due.text(x, 0, "");
    }
    due.same("a good one", x.fault(), -1);
  }
}
