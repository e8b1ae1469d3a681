/** Promises 1 (a new object), 2 (wait), 4 (feed) and 42 (count). */
public final class DaysTest {
  public static void main(String[] args) {
    Due due = new Due();
    aNewObject(due);
    days(due);
    tape(due);
    counts(due);
    due.end();
  }

  private static void aNewObject(Due due) {
    ForestCourts x = new ForestCourts();
    for (int what = 0; what <= 13; what++) {
      due.same("count(" + what + ") at first", x.count(what), 0);
    }
    due.same("bounds", x.bounds(0), -1);
    due.same("where", x.where(0, 5, 5), 0);
    due.same("walked", x.walked(0), -1);
    due.same("rivals", x.rivals(), -1);
    due.same("fault", x.fault(), -1);
    due.same("quarrel", x.quarrel(), 0);
    due.same("joined", x.joined(0, 0), -1);
    due.same("beats", x.beats(), 0);
    due.same("strip was 0", x.strip(7), 0);
    int[] plain = {40, 120, 1080, 20, 1};
    for (int what = 0; what < 5; what++) {
      due.same("rule " + what, x.rule(0, what), plain[what]);
    }
  }

  private static void days(Due due) {
    ForestCourts x = new ForestCourts();
    due.same("wait(0)", x.wait(0), 0);
    due.same("wait(1)", x.wait(1), 1);
    due.same("wait(4000)", x.wait(4000), 4001);
    due.argument("wait(-1)", () -> x.wait(-1));
    due.argument("wait(4001)", () -> x.wait(4001));
    due.argument("wait of the least number", () -> x.wait(Integer.MIN_VALUE));
    due.argument("wait of the greatest number", () -> x.wait(Integer.MAX_VALUE));
    due.same("nothing was waited", x.count(0), 4001);
    for (int k = 0; k < 23; k++) {
      x.wait(4000);
    }
    due.same("today", x.count(0), 96001);
    due.state("wait(4000) beyond the last day", () -> x.wait(4000));
    due.same("today as it was", x.count(0), 96001);
    due.same("up to the last day", x.wait(3999), 100000);
    due.state("wait(1) on the last day", () -> x.wait(1));
    due.argument("wait(4001) on the last day", () -> x.wait(4001));
    due.same("wait(0) on the last day", x.wait(0), 100000);
  }

  private static void tape(Due due) {
    ForestCourts x = new ForestCourts();
    for (int k = 1; k <= 20; k++) {
      due.same("feed", x.feed(k, k, k, k, k), 20 * k);
    }
    due.same("feed of a full tape", x.feed(1, 1, 1, 1, 1), -1);
    due.same("bytes", x.count(13), 400);
    due.argument("text of more than there is", () -> x.text(0, 401));
    due.same("bytes as they were", x.count(13), 400);
    due.same("text of none of them", x.text(0, 0), 0);
    due.same("the tape is empty", x.count(13), 0);

    // the highest byte first, of numbers below 0 too
    x.mark(0, 0, 0);
    x.mark(0, 9, 0);
    x.mark(0, 0, 9);
    x.feed(0x00010200, 0, 0, 0, 0);
    due.same("ring", x.ring(0, 3), 0);
    x.feed(0xff000102, 0, 0, 0, 0);
    due.same("byte 255 is no mark", x.ring(0, 3), -3);
    x.feed(0, 0, 0, 0, 0x00010203);
    due.same("the last byte is 3, no mark", x.ring(0, 20), -2);
    x.feed(0x20202020, 0x20202020, 0x20202020, 0x20202020, 0x20202020);
    x.feed(0x20202020, 0x20202020, 0x20202020, 0x20202020, 0x202020fe);
    due.same("a text of 39 blanks and byte 254", x.text(0, 40), -9);
    due.same("at byte 39", x.fault(), 39);
  }

  private static void counts(Due due) {
    ForestCourts x = new ForestCourts();
    Due.square(x, 10, 90);
    Due.text(x, 0, "bar cut;courts 1 1 1;");
    Due.text(x, 0, "use 1;");
    for (int k = 0; k < 5; k++) {
      x.person(1, 100);
    }
    x.warden(4, 5, 10);
    x.wait(2);
    for (int k = 0; k < 6; k++) {
      x.deed(0, k == 0 ? 0 : 1, 50, 50, 1, 7);
    }
    x.present(0, 0, 1, 2);
    x.wait(3);
    x.claim(0, 1, 1, 1);
    x.claim(0, 1, 1, 1);
    x.claim(0, 1, 1, 1);
    for (int k = 0; k < 8; k++) {
      x.spot(1, 1, 1);
    }
    x.wood(0, 1, 1);
    x.wood(0, 1, 1);
    x.take(0, 0, 0, 1);
    x.take(0, 0, 0, 1);
    x.take(0, 0, 0, 1);
    x.feed(0, 0, 0, 0, 0);
    int[] want = {5, 4, 1, 2, 5, 1, 6, 1, 7, 3, 8, 2, 3, 20};
    for (int what = 0; what < want.length; what++) {
      due.same("count(" + what + ")", x.count(what), want[what]);
    }
    due.same("count(-1)", x.count(-1), -1);
    due.same("count(14)", x.count(14), -1);
    due.same("count of the least number", x.count(Integer.MIN_VALUE), -1);
    due.same("count of the greatest number", x.count(Integer.MAX_VALUE), -1);
  }
}
