/** Promises 23 to 26: what an enemy does with shutters. */
public final class EnemyTest {
  private static final Check check = new Check("enemy");

  public static void main(String[] args) {
    enemyAndWorst();
    least();
    nail();
    refusals();
    byTrying();
    check.end();
  }

  /** Each of wax that holds its shelf's noon when shut, and runs when open; 3 and 4 hang on 2. */
  private static final String FRONTIER =
      "summer 30; deed 0 wax 44; deed 1 wax 38; deed 2 wax 32; deed 2 wax 32 on 2; deed 4 wax 20 on 2; deed 5 wax 99";

  private static void enemyAndWorst() {
    WaxTreaties x = Check.made(FRONTIER);
    check.due("23: none", x.enemy(0, 24), 0);
    check.due("24: none", x.worst(0, 24), 6);
    check.due("23: one", x.enemy(1, 24), 4);
    check.due("24: one", x.worst(1, 24), 3);
    check.due("23: two, the least set", x.enemy(2, 24), 5);
    check.due("24: two", x.worst(2, 24), 2);
    check.due("23: three", x.enemy(3, 24), 7);
    check.due("24: three", x.worst(3, 24), 1);
    check.due("23: five", x.enemy(5, 24), 31);
    check.due("23: six", x.enemy(6, 24), 63);
    check.due("24: six", x.worst(6, 24), 1);
    check.due("23: ahead of the sun the least set", x.enemy(2, 6), 3);
    check.due("24: ahead of the sun", x.worst(2, 6), 6);
    check.due("23: nothing changes", x.count(3), 0);
    x.shelf(2, 0, 1);
    check.due("23: one besides", x.enemy(1, 24), 1);
    check.due("24: one besides", x.worst(1, 24), 2);
    check.due("23: five besides", x.enemy(5, 24), 59);
    check.due("23: not six", x.enemy(6, 24), Check.NONE);
    check.due("24: not six", x.worst(6, 24), Check.NONE);
    WaxTreaties y = new WaxTreaties();
    check.due("24: no deeds", y.worst(3, 1), 0);
    check.due("23: no deeds", y.enemy(3, 1), 7);
  }

  private static void least() {
    WaxTreaties x = Check.made(FRONTIER);
    check.due("25: its own", x.least(0, 24), 1);
    check.due("25: by what it hangs on", x.least(4, 24), 1);
    check.due("25: never", x.least(5, 24), Check.NONE);
    check.due("25: ahead of the sun", x.least(0, 6), Check.NONE);
    x.shelf(0, 0, 1);
    check.due("25: anyhow", x.least(0, 24), 0);
    check.due("25: nothing changes", x.count(3), 1);
    // Its own sun makes 7 of it by 14, and the drop at 13 the rest; that needs the sun on shelf 1.
    WaxTreaties y = Check.made("summer 30; deed 1 wax 45; deed 2 wax 41");
    check.due("25: two", y.least(1, 24), 2);
    // So on each shelf, but the topmost, whose own sun is enough: a drop each down to the last.
    WaxTreaties z = Check.made("summer 30; deed 0 wax 52; deed 1 wax 47; deed 2 wax 41; deed 3 wax 35; deed 4 wax 29; deed 5 wax 23");
    for (int d = 0; d < 6; d++) {
      check.due("25: as many as shelves", z.least(d, 24), d + 1);
    }
    z.shelf(3, 0, 1);
    check.due("25: one less", z.least(5, 24), 5);
    check.due("25: those ahead of it", z.least(2, 24), 3);
  }

  private static void nail() {
    WaxTreaties x = Check.made(FRONTIER);
    // Nailing 2 leaves the enemy one of 0, 1: 5 hold; else 2 takes three.
    check.due("26: where most hang", x.nail(24), 2);
    check.due("26: ahead of the sun", x.nail(6), 0);
    x.shelf(2, 0, 1);
    check.due("26: all the same then", x.nail(24), 0);
    for (int s = 0; s < 6; s++) {
      x.shelf(s, 0, 1);
    }
    check.due("26: none is shut", x.nail(24), Check.NONE);
    x.shelf(4, 0, 0);
    check.due("26: the only one", x.nail(24), 4);
    check.due("26: nothing changes", x.count(3), 47);
    WaxTreaties y = Check.made("summer 30; deed 1 wax 38; deed 1 wax 38; deed 3 wax 26");
    check.due("26: most", y.nail(24), 1);
    y.shelf(1, 0, 1);
    check.due("26: with that one open", y.nail(24), 3);
    check.due("26: no deeds", new WaxTreaties().nail(1), 0);
    WaxTreaties z = Check.made("summer 30; deed 2 wax 32; deed 5; deed 5; deed 5; deed 5; deed 5; deed 5; deed 5");
    check.due("26: all eight", z.nail(24), 2);
  }

  private static void refusals() {
    WaxTreaties x = Check.at(9900);
    Check.read(x, "summer 30; deed 0 wax 44");
    int[] beyond = {
      x.enemy(-1, 1), x.enemy(7, 1), x.enemy(0, 0), x.enemy(0, 101), x.worst(-1, 1), x.worst(7, 1),
      x.worst(0, 0), x.worst(0, 101), x.least(1, 1), x.least(-1, 1), x.least(0, 0), x.least(0, 101),
      x.nail(0), x.nail(101), x.enemy(7, 100), x.least(1, 100)
    };
    for (int i = 0; i < beyond.length; i++) {
      check.due("23-26: beyond " + i, beyond[i], Check.BEYOND);
    }
    check.due("23: 99", x.enemy(1, 99), 1);
    check.due("24: 99", x.worst(1, 99), 0);
    check.due("25: 99", x.least(0, 99), 1);
    check.due("26: 99", x.nail(99), 0);
    for (int s = 0; s < 6; s++) {
      x.shelf(s, 0, 1);
    }
    check.due("23: 100, state ahead of none", x.enemy(1, 100), Check.STATE);
    check.due("24: 100, state ahead of none", x.worst(1, 100), Check.STATE);
    check.due("25: 100", x.least(0, 100), Check.STATE);
    check.due("26: 100, state ahead of none", x.nail(100), Check.STATE);
    check.due("23: none", x.enemy(1, 99), Check.NONE);
    check.due("24: none", x.worst(1, 99), Check.NONE);
    check.due("23: none of none", x.enemy(0, 99), 0);
    check.due("status of none", x.status(3), 2);
    check.due("status of state", x.status(4), 4);
  }

  private static void byTrying() {
    String[] texts = {
      "summer 27; deed 0; double 1 wax 34 on 0; tallow 1 wax 45; copy 2 wax 40; stacked 2 wax 27 on 1; deed 3 wax 24; false 4 wax 18; deed 5 wax 14",
      "summer 33; shutter 4 open; ice 0 7; ice 2 12; deed 0 wax 43; deed 1 wax 42; tallow 2 wax 48; copy 3 wax 44; deed 4 wax 33 on 3",
      "summer 38; candle 3 here; ice 3 60; buried 0 wax 33; double 1 wax 47; deed 2 wax 41; deed 3 wax 42; deed 4 wax 31 on 1; deed 5 wax 26 on 0"
    };
    int[] hs = {1, 12, 15, 37, 64};
    for (String text : texts) {
      for (int h : hs) {
        for (int k = 0; k <= 6; k++) {
          check.due("23: by trying", Check.made(text).enemy(k, h), triedEnemy(Check.made(text), k, h, false));
          check.due("24: by trying", Check.made(text).worst(k, h), triedEnemy(Check.made(text), k, h, true));
        }
        for (int d = 0; d < 5; d++) {
          check.due("25: by trying", Check.made(text).least(d, h), triedLeast(Check.made(text), d, h));
        }
        check.due("26: by trying", Check.made(text).nail(h), triedNail(Check.made(text), h));
      }
    }
  }

  private static void open(WaxTreaties x, int set) {
    for (int s = 0; s < 6; s++) {
      if ((set >> s & 1) == 1) {
        x.shelf(s, 0, 1);
      }
    }
  }

  private static int aheadOpened(WaxTreaties x, int set, int h) {
    x.image();
    open(x, set);
    int peaces = x.ahead(h, 0);
    x.undo();
    return peaces;
  }

  private static int triedEnemy(WaxTreaties x, int k, int h, boolean isWorst) {
    int best = Check.NONE;
    int fewest = 9;
    for (int set = 63; set >= 0; set--) {
      if ((set & x.count(3)) == 0 && Integer.bitCount(set) == k) {
        int holding = Integer.bitCount(aheadOpened(x, set, h));
        if (holding <= fewest) {
          best = set;
          fewest = holding;
        }
      }
    }
    return isWorst && best >= 0 ? fewest : best;
  }

  private static int triedLeast(WaxTreaties x, int deed, int h) {
    int shut = 63 & ~x.count(3);
    for (int k = 0; k <= 6; k++) {
      for (int set = 0; set < 64; set++) {
        if ((set & shut) == set && Integer.bitCount(set) == k && (aheadOpened(x, set, h) >> deed & 1) == 0) {
          return k;
        }
      }
    }
    return Check.NONE;
  }

  private static int triedNail(WaxTreaties x, int h) {
    int best = Check.NONE;
    int most = -1;
    for (int s = 0; s < 6; s++) {
      if ((x.count(3) >> s & 1) == 0) {
        int worst = 9;
        for (int t = 0; t < 6; t++) {
          if (t != s && (x.count(3) >> t & 1) == 0) {
            worst = Math.min(worst, Integer.bitCount(aheadOpened(x, 1 << t, h)));
          }
        }
        worst = worst == 9 ? Integer.bitCount(aheadOpened(x, 0, h)) : worst;
        if (worst > most) {
          best = s;
          most = worst;
        }
      }
    }
    return best;
  }
}
