import java.lang.management.ManagementFactory;

/** An object and 512 of the dearest calls stay far within the room that all calls of one run have. */
public final class RoomTest {
  private static final Check check = new Check("room");
  private static final int CALLS = 512;
  // 7.3 million fields and elements of four bytes at least.
  private static final long ROOM = 7_300_000L * 4;

  public static void main(String[] args) {
    com.sun.management.ThreadMXBean threads =
        (com.sun.management.ThreadMXBean) ManagementFactory.getThreadMXBean();
    if (!threads.isThreadAllocatedMemorySupported()) {
      check.that("can't be told here", true);
      check.end();
      return;
    }
    int sum = 0;
    long[] bytes = new long[3];
    // The first round loads classes.
    for (int round = 0; round < bytes.length; round++) {
      long before = threads.getCurrentThreadAllocatedBytes();
      sum += dear(new WaxTreaties());
      bytes[round] = threads.getCurrentThreadAllocatedBytes() - before;
    }
    System.out.println("room: " + bytes[2] + " bytes");
    check.that("bytes of an object and its calls: " + bytes[2], bytes[2] < ROOM);
    check.that("answers", sum != 0);
    check.end();
  }

  private static int dear(WaxTreaties x) {
    int sum = x.sheet(0, 32, 40) + x.sheet(1, 32, 40);
    for (int d = 0; d < 8; d++) {
      sum += x.deed(d % 7, d % 6);
    }
    int each = 30;
    for (int left = CALLS - 10; left >= each; left -= each) {
      int d = left % 8;
      sum += x.blocks(d, 100) + x.bears(d, 100) + x.least(d, 100) + x.place(d) + x.kindFor(d);
      sum += x.swap(100) + x.law(100) + x.enemy(3, 100) + x.worst(3, 100) + x.nail(100) + x.ice(9, 100);
      sum += x.opened(0, 24) + x.days(1) + x.began() + x.soonest() + x.ends(d) + x.ahead(100, 0);
      sum += x.feed('i' << 16 | 'c' << 8 | 'e', 3) + x.feed('0' << 8 | '0', 2) + x.text();
      sum += x.image() + x.undo() + x.copy(0, 0, 1, 0, 40) + x.judge(0, d) + x.load(0) + x.war() + x.key();
      sum += x.lie(0) + x.now(1) + x.status(-1);
    }
    return sum;
  }
}
