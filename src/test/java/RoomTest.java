import com.sun.management.ThreadMXBean;
import java.lang.management.ManagementFactory;

/** What 512 of the dearest calls make stays small: all calls of a run live in one room of 7.3 million elements. */
public final class RoomTest {
  private static final long MOST_BYTES = 400000;

  public static void main(String[] args) {
    Due due = new Due();
    ThreadMXBean threads = (ThreadMXBean) ManagementFactory.getThreadMXBean();
    play();
    long before = threads.getCurrentThreadAllocatedBytes();
    int calls = play();
    long made = threads.getCurrentThreadAllocatedBytes() - before;
    due.holds(calls + " calls made " + made + " bytes; fewer than " + MOST_BYTES, made < MOST_BYTES);
    before = threads.getCurrentThreadAllocatedBytes();
    new ForestCourts();
    long one = threads.getCurrentThreadAllocatedBytes() - before;
    due.holds("a new object takes " + one + " bytes; 512 of them fewer than 7.3 million numbers", one * 512 < 7300000L * 4);
    System.out.println(calls + " calls made " + made + " bytes, a new object " + one);
    due.end();
  }

  private static int play() {
    ForestCourts x = new ForestCourts();
    int calls = 0;
    for (int k = 0; k < 40; k++, calls++) {
      x.mark(k % 10, 7 * k % 1000, 31 * k * k % 1000);
      x.person(k % 4, 1000);
    }
    for (int t = 0; t < 10; t++, calls += 21) {
      String text = "bar cut if " + "1+".repeat(190) + "1<999;";
      for (int k = 0; k < 20; k++) {
        int[] five = new int[5];
        for (int j = 0; j < 20; j++) {
          int at = 20 * k + j;
          five[j / 4] = five[j / 4] << 8 | (at < text.length() ? text.charAt(at) : 0);
        }
        x.feed(five[0], five[1], five[2], five[3], five[4]);
      }
      x.text(0, text.length());
    }
    for (int k = 0; k < 40; k++, calls += 2) {
      x.warden(k % 40, 1, 1);
      x.lodge(0, k, k, 4000);
      x.spot(k, 2 * k, 1);
      x.beats();
      x.deed(k, 0, 1, 1, 0, 1);
      x.barred(k);
    }
    for (int k = 0; k < 20; k++, calls += 3) {
      x.feed(0x00010203, 0x04050000, 0, 0, 0);
      x.walk(6);
      x.wait(4000);
    }
    return calls;
  }
}
