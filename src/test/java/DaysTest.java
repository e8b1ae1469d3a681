/** Promises 1 (a new object), 2 (wait), 4 (feed) and 42 (count). */
public final class DaysTest {
  public static void main(String[] args) {
    Due due = new Due();
    aNewObject(due);
    nothingIsNumbered(due);
    waiting(due);
    oneByOne(due);
    waitedTooMuch(due);
    beyondTheLastDay(due);
    theLastDay(due);
    highestFirst(due);
    howManyBytes(due);
    fullTape(due);
    counts(due);
    countOfOthers(due);
    due.end();
  }

  private static void aNewObject(Due due) {
    due.about(1, "Nothing of all this; an empty TAPE and CHEST.");
    // what another object holds must not be seen in a new one
    filled();
    ForestCourts x = new ForestCourts();
    for (int what = 0; what <= 13; what++) {
      due.same("count(" + what + ")", x.count(what), 0);
    }
    due.same("bounds of the first day", x.bounds(0), -1);
    due.same("bounds of the last day", x.bounds(100000), -1);
    due.same("where", x.where(0, 5, 5), 0);
    due.same("walked", x.walked(0), -1);
    due.same("rivals", x.rivals(), -1);
    due.same("fault", x.fault(), -1);
    due.same("quarrel", x.quarrel(), 0);
    due.same("joined", x.joined(0, 0), -1);
    due.same("its sum", x.joined(0, 1), -1);
    due.same("beats", x.beats(), 0);
    int[] plain = {40, 120, 1080, 20, 1};
    for (int what = 0; what < 5; what++) {
      due.same("rule " + what, x.rule(0, what), plain[what]);
      due.same("rule " + what + " of the last day", x.rule(100000, what), plain[what]);
    }
    due.same("the first mark", x.mark(0, 0, 0), 0);
    due.argument("a byte of an empty tape", () -> x.text(0, 1));

    due.about(0, "DAYS: today is 0 at first, 100,000 at most.");
    due.same("today", new ForestCourts().count(0), 0);
    due.about(0, "STRIP tells (0 to 100; 0 at first)");
    due.same("strip was", new ForestCourts().strip(7), 0);
  }

  private static void nothingIsNumbered(Due due) {
    due.about(1, "Nothing of all this");
    ForestCourts x = new ForestCourts();
    due.numbered("unring", 0, n -> x.unring(n, 0));
    due.numbered("force", 0, n -> x.force(n, 0) ? 1 : 0);
    due.numbered("heir", 0, n -> x.heir(n, -1));
    due.numbered("die", 0, x::die);
    due.numbered("told", 0, n -> x.told(n, 0));
    due.numbered("warden", 0, n -> x.warden(n, 1, 0));
    due.numbered("deed", 0, n -> x.deed(n, 0, 0, 0, 0, 1));
    due.numbered("barred", 0, n -> x.barred(n) ? 1 : 0);
    due.numbered("why", 0, x::why);
    due.numbered("fine", 0, x::fine);
    due.numbered("present", 0, n -> x.present(n, 0, 0, 0));
    due.numbered("proof", 0, n -> x.proof(n, 0));
    due.numbered("of", 0, n -> x.of(n, 0));
    due.numbered("claim", 0, n -> x.claim(n, 0, 0, 0));
    due.numbered("use", 0, n -> x.use(n, 0, 0));
    due.numbered("sure", 0, n -> x.sure(n, 0));
    due.numbered("enter", 0, n -> x.enter(0, n, 0));
    due.numbered("lodge", 0, n -> x.lodge(n, 0, 0, 0));
    due.numbered("beat", 0, x::beat);
    due.numbered("take", 0, n -> x.take(n, 0, 0, 1));
    due.numbered("stock", 0, n -> x.stock(n, 0, 0, 0));
  }

  private static void waiting(Due due) {
    due.about(2, "So many DAYS begin, one by one: today.");
    ForestCourts x = new ForestCourts();
    due.same("wait(0)", x.wait(0), 0);
    due.same("wait(1)", x.wait(1), 1);
    due.same("wait(4000)", x.wait(4000), 4001);
    due.same("wait(0)", x.wait(0), 4001);
    due.same("wait(3999)", x.wait(3999), 8000);
    due.same("today", x.count(0), 8000);
  }

  private static void oneByOne(Due due) {
    due.about(2, "So many DAYS begin, one by one: today.");
    // courts that sit each day: one presentment goes through the three on three days
    for (int days = 0; days <= 3; days++) {
      ForestCourts once = presented();
      once.wait(days);
      ForestCourts often = presented();
      for (int k = 0; k < days; k++) {
        often.wait(1);
        often.wait(0);
      }
      due.same("what it is after wait(" + days + ")", once.of(0, 0), days);
      due.same("what it is after so many times wait(1)", often.of(0, 0), days);
      due.same("since", once.of(0, 2), days);
    }
  }

  private static ForestCourts presented() {
    ForestCourts x = Due.woods("bar cut;courts 1 1 1;", 5, 0, 0);
    x.warden(0, 1, 0);
    Due.present(x, 0, 1);
    return x;
  }

  private static void waitedTooMuch(Due due) {
    due.about(2, "IllegalArgumentException: they are not 0 to 4,000");
    ForestCourts x = presented();
    due.only("wait", 0, 4000, x::wait);
    due.same("nothing was waited", x.count(0), 0);
    due.same("no court has sat", x.of(0, 0), 0);
  }

  private static void beyondTheLastDay(Due due) {
    due.about(2, "IllegalStateException: today would be above 100,000.");
    ForestCourts x = presented();
    Due.until(x, 96001);
    Due.present(x, 0, 1);
    due.state("wait(4000)", () -> x.wait(4000));
    due.same("today as it was", x.count(0), 96001);
    due.same("no court has sat", x.of(1, 0), 0);
    due.same("up to the last day", x.wait(3999), 100000);
    due.same("the courts have sat", x.of(1, 0), 3);
    due.state("wait(1)", () -> x.wait(1));
    due.state("wait(4000)", () -> x.wait(4000));
    due.argument("wait(4001)", () -> x.wait(4001));
    due.argument("wait(-1)", () -> x.wait(-1));
    due.same("wait(0)", x.wait(0), 100000);
  }

  private static void theLastDay(Due due) {
    due.about(0, "DAYS: today is 0 at first, 100,000 at most.");
    ForestCourts x = Due.woods("bar cut;courts 4000 1 1;fine cut=year;", 5, 0, 0);
    x.warden(0, 1, 0);
    Due.until(x, 99999);
    Due.present(x, 0, 1);
    x.wait(1);
    due.same("a court sits on the last day", x.of(0, 0), 1);
    due.same("on that day", x.of(0, 2), 100000);
    int deed = x.deed(0, 0, 500, 500, 100000, 1);
    due.holds("a deed of the last day", x.barred(deed));
    due.about(0, "YEAR: DAY by 360, cut.");
    due.same("year", x.fine(deed), 277);
    due.about(0, "MONTH: DAY by 30, cut, by 12 what is left.");
    Due.text(x, 100000, "fine cut=month;");
    due.same("month", x.fine(deed), 9);
  }

  private static void highestFirst(Due due) {
    due.about(4, "Twenty bytes come on the TAPE, of each number the highest first: how many there are");
    // twenty blanks are a text; one other byte is its fault, at the place where it stands
    for (int place = 0; place < 20; place++) {
      for (int other : new int[] {0, 33, 127, 128, 255}) {
        int[] five = {0x20202020, 0x20202020, 0x20202020, 0x20202020, 0x20202020};
        int shift = 24 - place % 4 * 8;
        five[place / 4] = five[place / 4] & ~(255 << shift) | other << shift;
        ForestCourts x = new ForestCourts();
        x.feed(five[0], five[1], five[2], five[3], five[4]);
        due.same("byte " + other + " at " + place, x.text(0, 20), -9);
        due.same("where byte " + other + " is", x.fault(), place);
      }
    }
    ForestCourts x = new ForestCourts();
    for (int k = 0; k < 10; k++) {
      x.mark(k, k * k, 10 * k);
    }
    x.feed(0x00010203, 0x04050607, 0x08090000, -1, -1);
    due.same("marks 0 to 9", x.ring(0, 10), 0);
    x.feed(0x00010aff, 0, 0, 0, 0);
    due.same("byte 10 is no mark", x.ring(0, 3), -3);
    x.feed(0xff000102, 0, 0, 0, 0);
    due.same("byte 255 is no mark", x.ring(0, 3), -3);
    x.feed(0x80000102, 0, 0, 0, 0);
    due.same("byte 128 is no mark", x.ring(0, 3), -3);
  }

  private static void howManyBytes(Due due) {
    due.about(4, "how many there are");
    ForestCourts x = new ForestCourts();
    for (int k = 1; k <= 20; k++) {
      due.same("feed " + k, x.feed(k, -k, Integer.MIN_VALUE, Integer.MAX_VALUE, 0), 20 * k);
      due.same("count(13)", x.count(13), 20 * k);
    }
    x.ring(0, 0);
    due.same("anew", x.feed(0, 0, 0, 0, 0), 20);
  }

  private static void fullTape(Due due) {
    due.about(4, "NONE, doing nothing, if there would be more than 400.");
    ForestCourts x = new ForestCourts();
    int blanks = 0x20202020;
    for (int k = 0; k < 20; k++) {
      x.feed(blanks, blanks, blanks, blanks, blanks);
    }
    due.same("a full tape", x.feed(1, 1, 1, 1, 1), -1);
    due.same("and again", x.feed(1, 1, 1, 1, 1), -1);
    due.same("bytes", x.count(13), 400);
    due.argument("more than there is", () -> x.text(0, 401));
    due.same("bytes as they were", x.count(13), 400);
    due.same("400 blanks as they were", x.text(0, 400), 0);
    due.same("the tape is empty", x.count(13), 0);
    due.same("there is room again", x.feed(1, 1, 1, 1, 1), 20);
  }

  /** An object that has another count of each. */
  private static ForestCourts filled() {
    ForestCourts x = Due.woods("bar cut;courts 1 2 3;fine cut=7;", 100, 0, 0, 0, 0, 0);
    for (int k = 0; k < 8; k++) {
      x.mark(4 + k, k, k);
    }
    Due.text(x, 0, "use 1;");
    for (int k = 0; k < 3; k++) {
      x.warden(k, 1, 0);
    }
    for (int k = 0; k < 5; k++) {
      Due.present(x, 0, 1);
    }
    x.wait(30);
    for (int k = 0; k < 5; k++) {
      x.deed(0, 1, 5, 5, 0, 1);
    }
    for (int k = 0; k < 8; k++) {
      x.claim(0, 0, 0, 0);
    }
    for (int k = 0; k < 7; k++) {
      x.spot(0, 0, 1);
    }
    for (int k = 0; k < 4; k++) {
      x.wood(0, 0, 0);
    }
    for (int k = 0; k < 11; k++) {
      x.take(0, 0, 0, 1);
    }
    x.feed(0, 0, 0, 0, 0);
    x.feed(0, 0, 0, 0, 0);
    x.strip(5);
    return x;
  }

  private static void counts(Due due) {
    due.about(42, "0 today, 1 MARKS, 2 RINGS, 3 TEXTS, 4 PEOPLE, 5 WARDENS, 6 DEEDS, 7 PRESENTMENTS, 8 the CHEST, "
        + "9 CLAIMS, 10 SPOTS, 11 WOODS, 12 TAKINGS, 13 bytes of the TAPE");
    ForestCourts x = filled();
    int[] want = {30, 12, 1, 2, 6, 3, 10, 5, 35, 8, 7, 4, 11, 40};
    for (int what = 0; what < want.length; what++) {
      due.same("count(" + what + ")", x.count(what), want[what]);
    }
  }

  private static void countOfOthers(Due due) {
    due.about(42, "NONE for others.");
    ForestCourts x = filled();
    for (int what : new int[] {-1, 14, -14, 100, Integer.MIN_VALUE, Integer.MAX_VALUE}) {
      due.same("count(" + what + ")", x.count(what), -1);
    }
  }
}
