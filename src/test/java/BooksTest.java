/** Promises 31 to 34: books that look back, and draws. */
public final class BooksTest {
  private static final Check check = new Check("books");

  public static void main(String[] args) {
    began();
    beganAsItIsNow();
    opened();
    openedRefusals();
    days();
    daysRefusals();
    seed();
    check.end();
  }

  private static void began() {
    // Summer 40, shut: from 9 on the deed of wax 44 has 2, 4 and 6 over; the double one 8 more at 12.
    WaxTreaties x = Check.made("summer 40; deed 0 wax 44; double 0 wax 44");
    check.due("31: at 0", x.began(), Check.STATE);
    x.hours(23);
    check.due("31: at 23", x.began(), Check.STATE);
    check.due("31: both have run", x.now(2), 3);
    x.hours(1);
    // From hour 24 - h on: both run if 12 and 13 or enough before them are still to come.
    int bits = 0;
    for (int h = 1; h <= 24; h++) {
      bits |= triedBegan(h) == 3 ? 1 << h : 0;
    }
    check.due("31: all that make both run", x.began(), bits);
    check.that("31: some but not all do", bits != 0 && bits != (1 << 25) - 2);
    check.due("31: h 11 is 13 and on: 10, 18, 24", bits >> 11 & 1, 1);
    check.due("31: h 10 is 14 and on: 8, 14, 18, 20", bits >> 10 & 1, 1);
    check.due("31: h 9 is 15 and on: 6, 10, 12", bits >> 9 & 1, 0);
    x.renew(1);
    // Now just the first may: 15 and on run it alone (6, 10); 16 and on no more (4, 6).
    check.due("31: just the first", x.began(), 1 << 9);
    check.due("31: nothing changes", x.now(0) * 1000 + x.now(2) * 100 + x.of(1, 3), 24100);
    check.due("31: no deeds", Check.at(24).began(), (1 << 25) - 2);
    // From 16 on 5, 3 and 1 over make 9: not run, as it would if it had begun soft.
    WaxTreaties y = Check.made("summer 40; deed 0 wax 43");
    y.hours(24);
    y.renew(0);
    y.change(0, 3, 99);
    check.due("31: it begins with 0", y.began() >> 8 & 1, 1);
    check.due("31: h 9 is 15 and on: 7, 12", y.began() >> 9 & 1, 0);
  }

  /** Those that have run of the same begun anew at 24 - h, gone till 24. */
  private static int triedBegan(int h) {
    WaxTreaties y = Check.at(24 - h);
    Check.read(y, "summer 40; deed 0 wax 44; double 0 wax 44");
    y.hours(h);
    return y.now(2);
  }

  private static void beganAsItIsNow() {
    // The ice that is there now counts, though it came but now.
    WaxTreaties x = Check.made("summer 40; deed 0 wax 44");
    x.hours(24);
    check.due("31: without ice", x.began() >> 12 & 1, 1);
    x.shelf(0, 1, 99);
    check.due("31: with ice none had run", x.began(), 0);
    x.renew(0);
    check.due("31: with ice all", x.began(), (1 << 25) - 2);
    check.due("31: ice stays", x.now(4), 99);
    x.shelf(0, 1, 2);
    // Two blocks are gone after two hours: 13 and 14 are iced at h 11: 6, 10 run it.
    check.due("31: ice melts on the way", x.began() >> 11 & 1, 0);
    check.due("31: h 10: 14 and 15 are iced: 4, 6", x.began() >> 10 & 1, 1);
  }

  private static void opened() {
    // Shut none runs by 24. Open, 0 runs by shutter 0, 1 by shutter 1.
    WaxTreaties x = Check.made("summer 30; deed 0 wax 44; deed 1 wax 38; deed 5 wax 99; shutter 3 open");
    check.due("32: none", x.opened(0, 24), 16);
    check.due("32: just 0", x.opened(1, 24), 16);
    check.due("32: just 1", x.opened(2, 24), 16);
    check.due("32: both", x.opened(3, 24), 16);
    check.due("32: the third", x.opened(4, 24), 0);
    check.due("32: all", x.opened(7, 24), 0);
    check.due("32: ahead of the sun", x.opened(0, 6), 64);
    check.due("32: nothing changes", x.count(3), 8);
    x.change(2, 3, 50);
    check.due("32: the third anyhow", x.opened(4, 1), 64);
    check.due("32: not none", x.opened(0, 1), 0);
    x.hours(1);
    check.due("32: it has", x.opened(4, 5), 64);
    check.due("32: no deeds", new WaxTreaties().opened(0, 1), 64);
  }

  private static void openedRefusals() {
    WaxTreaties x = Check.made("deed 0; deed 0");
    int[][] beyond = {{4, 1}, {-1, 1}, {Integer.MIN_VALUE, 1}, {256, 1}, {0, 0}, {0, 25}, {0, -1}};
    for (int[] b : beyond) {
      check.due("32: opened(" + b[0] + ", " + b[1] + ")", x.opened(b[0], b[1]), Check.BEYOND);
    }
    check.due("32: opened(3, 24)", x.opened(3, 24), 0);
    WaxTreaties y = Check.at(9975);
    check.due("32: to the last", y.opened(0, 24), 64);
    y.hours(1);
    check.due("32: too far", y.opened(0, 24), Check.STATE);
    check.due("32: beyond first", y.opened(1, 24), Check.BEYOND);
    check.due("32: 23", y.opened(0, 23), 64);
    WaxTreaties z = Check.made("deed 0; deed 0; deed 0; deed 0; deed 0; deed 0; deed 0; deed 0");
    check.due("32: of eight", z.opened(255, 1), 0);
    check.due("32: of a ninth", z.opened(256, 1), Check.BEYOND);
  }

  private static void days() {
    int z = 99;
    WaxTreaties x = Check.made("deed 0 wax 30; double 1 wax 35; deed 2 wax 35; ice 4 99; candle 4 here");
    WaxTreaties y = Check.made("deed 0 wax 30; double 1 wax 35; deed 2 wax 35; ice 4 99; candle 4 here");
    x.seed(z);
    int runs = 0;
    for (int n = 1; n <= 4; n++) {
      int ran = 0;
      for (int day = 0; day < n; day++) {
        z = z * 1103515245 + 12345;
        y.summer((z >>> 8) % 41);
        z = z * 1103515245 + 12345;
        int s = (z >>> 8) % 6;
        y.shelf(s, 0, 1 - y.shelf(s, 0, 0));
        ran += y.hours(24);
      }
      check.due("33: days(" + n + ")", x.days(n), ran);
      check.due("33: z", x.count(6), z);
      check.due("33: summer", x.count(2), y.count(2));
      check.due("33: open", x.count(3), y.count(3));
      check.due("33: hour", x.count(0), y.count(0));
      check.due("33: run", x.now(2), y.now(2));
      check.due("33: soft", x.now(3), y.now(3));
      check.due("33: ice", x.now(4), y.now(4));
      runs += ran;
    }
    check.that("33: some have run", runs > 0);
    // From seed 1 on: 1103527590 and then -1777191873, whose parts by 8 bits are 4310654 and 9835069.
    WaxTreaties w = new WaxTreaties();
    w.days(1);
    check.due("33: first summer", w.count(2), (1103527590 >>> 8) % 41);
    check.due("33: first z", w.count(6), 1103527590 * 1103515245 + 12345);
  }

  private static void daysRefusals() {
    WaxTreaties x = new WaxTreaties();
    check.due("33: days(0)", x.days(0), Check.BEYOND);
    check.due("33: days(13)", x.days(13), Check.BEYOND);
    check.due("33: days(-1)", x.days(-1), Check.BEYOND);
    check.due("33: nothing drawn", x.count(6), 1);
    check.due("33: days(12)", x.days(12), 0);
    check.due("33: hour", x.count(0), 288);
    WaxTreaties y = Check.at(9951);
    y.deed(0, 5);
    check.due("33: days(3)", y.days(3), Check.STATE);
    check.due("33: nothing drawn", y.count(6), 1);
    check.due("33: beyond first", y.days(13), Check.BEYOND);
    check.due("33: days(2) to the last", y.days(2), 0);
    check.due("33: hour", y.count(0), 9999);
    check.due("33: days(1) at the last", y.days(1), Check.STATE);
  }

  private static void seed() {
    WaxTreaties x = new WaxTreaties();
    check.due("34: at first", x.seed(-1000001), 1);
    check.due("34: any int", x.seed(Integer.MIN_VALUE), -1000001);
    check.due("34: any int", x.seed(-1000004), Integer.MIN_VALUE);
    check.due("34: told", x.count(6), -1000004);
    check.due("34: that is no finding", x.status(-1), 0);
  }
}
