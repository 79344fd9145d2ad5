import java.lang.management.ManagementFactory;

/** Calls make nothing that stays or goes: all rows are made with the object. */
public final class RoomTest {
  private static final Check check = new Check("room");
  private static final int MOST_BYTES_OF_ONE = 20_000;

  public static void main(String[] args) {
    com.sun.management.ThreadMXBean threads =
        (com.sun.management.ThreadMXBean) ManagementFactory.getThreadMXBean();
    if (!threads.isThreadAllocatedMemorySupported()) {
      check.that("can't be told here", true);
      check.end();
      return;
    }
    int sum = 0;
    long[] bytes = new long[3];
    // The first round loads classes.
    for (int round = 0; round < bytes.length; round++) {
      long before = threads.getCurrentThreadAllocatedBytes();
      WaxTreaties x = new WaxTreaties();
      sum += dear(x);
      bytes[round] = threads.getCurrentThreadAllocatedBytes() - before;
    }
    check.that("bytes of an object and its calls: " + bytes[2], bytes[2] < MOST_BYTES_OF_ONE);
    check.that("answers", sum != 0);
    check.end();
  }

  private static int dear(WaxTreaties x) {
    int sum = x.sheet(0, 32, 40) + x.sheet(1, 32, 40);
    for (int d = 0; d < 8; d++) {
      sum += x.deed(d % 7, d % 6);
    }
    for (int i = 0; i < 8; i++) {
      sum += x.blocks(i, 100) + x.bears(i, 100) + x.least(i, 100) + x.place(i) + x.kindFor(i);
      sum += x.swap(100) + x.law(100) + x.enemy(3, 100) + x.worst(3, 100) + x.nail(100) + x.ice(9, 100);
      sum += x.opened(0, 24) + x.days(1) + x.began() + x.soonest() + x.ends(i) + x.ahead(100, 0);
      sum += x.feed('i' << 16 | 'c' << 8 | 'e', 3) + x.feed('0' << 8 | '0', 2) + x.text();
      sum += x.image() + x.undo() + x.copy(0, 0, 1, 0, 40) + x.judge(0, i) + x.load(0) + x.war() + x.key();
    }
    return sum;
  }
}
