/** Promises 27 to 30: what hangs on what. */
public final class HangTest {
  private static final Check check = new Check("hang");

  public static void main(String[] args) {
    hang();
    falls();
    war();
    key();
    check.end();
  }

  /** 1 and 2 hang on 0, 3 on 1, 5 on 4, 6 on 5; 7 on none. */
  private static WaxTreaties forest() {
    WaxTreaties x = Check.made("deed 0; deed 0 on 0; deed 0 on 0; deed 0 on 1; deed 0; deed 0 on 4; deed 0 on 5; deed 0");
    return x;
  }

  private static void run(WaxTreaties x, int deed) {
    x.change(deed, 3, 99);
    x.hours(1);
  }

  private static void hang() {
    WaxTreaties x = forest();
    int[] due = {14, 8, 0, 0, 96, 64, 0, 0};
    for (int d = 0; d < 8; d++) {
      check.due("27: hang(" + d + ")", x.hang(d), due[d]);
    }
    check.due("27: hang(8)", x.hang(8), Check.BEYOND);
    check.due("27: hang(-1)", x.hang(-1), Check.BEYOND);
    run(x, 1);
    check.due("27: run or not", x.hang(0), 14);
    x.change(3, 5, 2);
    check.due("27: by another way", x.hang(0), 14);
    check.due("27: no more", x.hang(1), 0);
    x.change(4, 5, 3);
    check.due("27: all by steps", x.hang(0), 126);
  }

  private static void falls() {
    WaxTreaties x = forest();
    int[] due = {15, 10, 4, 8, 112, 96, 64, 128};
    for (int d = 0; d < 8; d++) {
      check.due("28: falls(" + d + ")", x.falls(d), due[d]);
    }
    check.due("28: falls(8)", x.falls(8), Check.BEYOND);
    check.due("28: falls(-1)", x.falls(-1), Check.BEYOND);
    run(x, 1);
    int[] then = {5, 0, 4, 0, 112, 96, 64, 128};
    for (int d = 0; d < 8; d++) {
      check.due("28: then falls(" + d + ")", x.falls(d), then[d]);
    }
    check.due("28: nothing changes", x.now(2), 2);
  }

  private static void war() {
    WaxTreaties x = forest();
    check.due("29: three", x.war(), 3);
    run(x, 1);
    check.due("29: still three", x.war(), 3);
    run(x, 0);
    check.due("29: two", x.war(), 2);
    run(x, 5);
    check.due("29: a piece of it", x.war(), 2);
    run(x, 4);
    check.due("29: one", x.war(), 1);
    run(x, 7);
    check.due("29: none holds", x.war(), 0);
    x.renew(0);
    check.due("29: again", x.war(), 1);
    x.renew(6);
    check.due("29: that doesn't hold", x.war(), 1);
    check.due("29: no deeds", new WaxTreaties().war(), 0);
  }

  private static void key() {
    WaxTreaties x = forest();
    check.due("30: four", x.key(), 0);
    run(x, 2);
    check.due("30: three, the least", x.key(), 0);
    run(x, 3);
    check.due("30: three", x.key(), 4);
    run(x, 5);
    check.due("30: two", x.key(), 0);
    for (int d = 0; d < 8; d++) {
      run(x, d);
    }
    check.due("30: none falls, the least", x.key(), 0);
    check.due("30: no deeds", new WaxTreaties().key(), Check.NONE);
  }
}
