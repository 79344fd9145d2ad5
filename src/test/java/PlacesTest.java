/** Promises 16 to 22: where to lay what, each told by what it changes and by going those hours. */
public final class PlacesTest {
  private static final Check check = new Check("places");

  public static void main(String[] args) {
    place();
    kindFor();
    ice();
    blocks();
    bears();
    swap();
    law();
    refusals();
    byTrying();
    check.end();
  }

  private static void place() {
    WaxTreaties x = Check.made("summer 40; deed 0; shutter 0 open; shutter 1 open; deed 5 wax 99 on 0");
    check.due("16: on shelf 0 it ends", x.ends(0), 9);
    check.due("16: 42 at 13 don't run it", x.place(0), 2);
    Check.read(x, "candle 2 here; candle 3 here; candle 4 here; shutter 4 open");
    check.due("16: past the candles", x.place(0), 5);
    Check.read(x, "candle 5 here; shutter 5 open");
    check.due("16: warm everywhere, but last there", x.place(0), 5);
    Check.read(x, "candle 0 here; candle 1 here; shutter 3 open; candle 3 gone");
    check.due("16: of two as late the lesser", x.place(0), 3);
    x.change(0, 2, 1);
    check.due("16: of several the least", x.place(0), 0);
    check.due("16: nothing changes", x.of(0, 1), 0);
    x.change(1, 1, 2);
    check.due("16: another's end doesn't change by its place", x.place(1), 0);
  }

  private static void kindFor() {
    WaxTreaties x = Check.made("summer 40; shutter 0 open; deed 0");
    check.due("17: buried", x.kindFor(0), 5);
    x.change(0, 2, 30);
    check.due("17: of wax 30", x.kindFor(0), 5);
    x.summer(0);
    check.due("17: of several the least", x.kindFor(0), 0);
    check.due("17: nothing changes", x.of(0, 0), 0);
    x.change(0, 3, 19);
    check.due("17: soft as it is", x.kindFor(0), 1);
  }

  private static void ice() {
    // Without ice each runs by noon; with it none does.
    WaxTreaties x = Check.made("summer 40; deed 3 wax 24; deed 2 wax 29; deed 2 wax 29");
    check.due("18: two for one", x.ice(30, 24), 2);
    check.due("18: none holds either way behind 100", x.ice(1, 100), 0);
    x.change(1, 1, 4);
    check.due("18: one each: the least", x.ice(30, 24), 2);
    x.change(2, 1, 3);
    x.change(2, 2, 99);
    check.due("18: the one that helps", x.ice(30, 24), 3);
    check.due("18: nothing changes", x.now(4), 0);
    // From 10 on 99 blocks last till 12 of the fourth day after; without any 13 runs it.
    WaxTreaties y = Check.at(10);
    Check.read(y, "summer 40; ice 1 50; deed 1 wax 38");
    check.due("18: enough for 99 hours", y.ice(50, 99), 1);
    check.due("18: 99 at most", y.ice(50, 100), 0);
    check.due("18: nothing changes", y.now(4), 50);
    // On top of those that are there.
    WaxTreaties z = Check.at(9);
    Check.read(z, "summer 40; ice 0 50; ice 1 98; deed 0 wax 44; deed 1 wax 38; deed 1 wax 38");
    check.due("18: one more does", z.ice(1, 100), 1);
    z.renew(0);
    z.change(2, 2, 99);
    z.change(1, 2, 99);
    check.due("18: one more doesn't", z.ice(48, 100), 0);
    check.due("18: 49 more do", z.ice(49, 100), 0);
  }

  private static void blocks() {
    // Iced it feels 44 at most; else from 9 to 17: 2, 4, 6, 8, 10, 8, 6, 4, 2 over.
    WaxTreaties x = Check.made("summer 40; deed 0 wax 44");
    check.due("19: without", x.ends(0), 12);
    int[] due = {0, 11, 12, 14, 14, 15, 16, 16};
    for (int h = 11; h < 19; h++) {
      check.due("19: behind " + h, x.blocks(0, h), due[h - 11]);
    }
    check.due("19: behind 24", x.blocks(0, 24), 16);
    x.change(0, 2, 34);
    check.due("19: wax too soft", x.blocks(0, 24), Check.NONE);
    x.change(0, 2, 44);
    x.shelf(0, 1, 5);
    check.due("19: besides those there", x.blocks(0, 24), 11);
    check.due("19: nothing changes", x.now(4), 5);
    x.shelf(1, 1, 99);
    check.due("19: of its own shelf", x.blocks(0, 24), 11);
    WaxTreaties y = Check.at(9);
    Check.read(y, "summer 40; deed 0 wax 44");
    check.due("19: behind 98", y.blocks(0, 98), 79);
    check.due("19: behind 99", y.blocks(0, 99), 98);
    check.due("19: behind 100", y.blocks(0, 100), 99);
    y.shelf(0, 1, 60);
    check.due("19: up to 99", y.blocks(0, 100), 39);
    y.shelf(0, 1, 99);
    check.due("19: there are enough", y.blocks(0, 100), 0);
    WaxTreaties z = Check.at(10);
    Check.read(z, "summer 40; deed 0 wax 44; ice 0 60");
    check.due("19: 99 at most", z.blocks(0, 100), Check.NONE);
  }

  private static void bears() {
    // Shelf 0 shut has half of 24, 28, 24 at 12, 13, 14; shelf 1 open all of it, less 6.
    WaxTreaties x = Check.made("deed 0 wax 40; shutter 1 open; deed 1");
    check.due("20: by its shutter", x.bears(0, 24), 30);
    check.due("20: an open one", x.bears(1, 24), 23);
    check.due("20: early", x.bears(1, 6), 40);
    x.change(0, 3, 99);
    check.due("20: none", x.bears(0, 1), Check.NONE);
    x.change(0, 3, 0);
    x.change(0, 2, 5);
    x.shelf(0, 2, 1);
    check.due("20: not even 0", x.bears(0, 24), Check.NONE);
    x.change(0, 2, 6);
    check.due("20: for an hour", x.bears(0, 1), 3);
    x.change(0, 2, 8);
    check.due("20: for two", x.bears(0, 2), 0);
    x.change(0, 2, 3);
    check.due("20: just 0", x.bears(0, 1), 0);
    x.change(0, 2, 2);
    check.due("20: below 0 doesn't count", x.bears(0, 1), Check.NONE);
    check.due("20: nothing changes", x.count(2), 15);
  }

  private static void swap() {
    // Deed 0 can't stand shelf 0, deed 1 can; three lie beneath.
    WaxTreaties x = Check.made("summer 40; deed 0 wax 36; deed 3 wax 99; deed 4 wax 30; deed 5 wax 99; deed 5 wax 30");
    check.due("21: the first so", x.swap(24), 1);
    x.change(1, 2, 36);
    check.due("21: the next so", x.swap(24), 3);
    x.change(0, 2, 99);
    x.change(1, 2, 99);
    check.due("21: none", x.swap(24), Check.NONE);
    check.due("21: nothing changes", x.lie(0) + x.lie(3) * 10 + x.lie(5) * 100, 1 + 20 + 2400);
    WaxTreaties y = Check.made("summer 40; deed 5 wax 99; deed 5 wax 99; deed 0 wax 36; deed 5 wax 36; deed 5 wax 99; tallow 5 wax 10");
    check.due("21: with a lesser one", y.swap(24), 2);
    y.change(0, 2, 20);
    y.change(1, 2, 20);
    check.due("21: with a greater one", y.swap(24), 24);
    WaxTreaties z = Check.made("deed 0");
    check.due("21: but one", z.swap(1), Check.NONE);
  }

  private static void law() {
    WaxTreaties x = Check.made("summer 40; shutter 0 open; false 0; copy 1; deed 0");
    check.due("22: buried", x.law(24), 5);
    check.due("22: behind 8 deed", x.law(8), 0);
    check.due("22: behind 9 double", x.law(9), 1);
    check.due("22: behind 10 stacked", x.law(10), 4);
    check.due("22: behind 11 buried", x.law(11), 5);
    check.due("22: nothing changes", x.of(0, 0) * 100 + x.of(1, 0) * 10 + x.of(2, 0), 630);
    check.due("22: no deeds", new WaxTreaties().law(1), 0);
  }

  private static void refusals() {
    WaxTreaties x = Check.at(9899);
    x.deed(0, 0);
    for (int round = 0; round < 2; round++) {
      int[] got = {
        x.place(1), x.place(-1), x.kindFor(1), x.kindFor(-1), x.ice(0, 1), x.ice(100, 1), x.ice(1, 0),
        x.ice(1, 101), x.blocks(1, 1), x.blocks(-1, 1), x.blocks(0, 0), x.blocks(0, 101), x.bears(1, 1),
        x.bears(-1, 1), x.bears(0, 0), x.bears(0, 101), x.swap(0), x.swap(101), x.law(0), x.law(101)
      };
      for (int i = 0; i < got.length; i++) {
        check.due("16-22: beyond " + i, got[i], Check.BEYOND);
      }
      int[] late = {x.place(0), x.kindFor(0), x.ice(1, 100), x.blocks(0, 100), x.bears(0, 100), x.law(100)};
      int[] due = {0, 0, 0, 0, 30, 0};
      for (int i = 0; i < late.length; i++) {
        check.due("16-22: late " + i, late[i], round == 0 ? due[i] : Check.STATE);
      }
      check.due("21: late", x.swap(100), round == 0 ? Check.NONE : Check.STATE);
      check.due("22: late beyond", x.law(101), Check.BEYOND);
      x.hours(1);
    }
  }

  /** Each answer is found again by changing the thing itself, asking, and undoing. */
  private static void byTrying() {
    String[] texts = {
      "summer 33; shutter 0 open; deed 0; double 1 on 0; tallow 0 wax 44; copy 1 wax 50; stacked 2 wax 20 on 1; buried 3 wax 12; false 3 wax 18; deed 4",
      "summer 21; shutter 1 open; ice 1 7; candle 2 here; deed 1 wax 20; deed 2 wax 25 on 0; copy 2 wax 30; copy 3 wax 18; false 4 wax 9",
      "summer 40; ice 0 20; ice 3 60; shutter 5 open; double 0 wax 36; stacked 1 wax 33; deed 3 wax 20; tallow 5 wax 33 on 1; deed 5 wax 30 on 0"
    };
    int[] hs = {1, 9, 13, 16, 31, 61, 100};
    for (String text : texts) {
      for (int turn = 0; turn < 3; turn++) {
        for (int d = 0; d < made(text, turn).count(1); d++) {
          check.due("16: place by trying", made(text, turn).place(d), longest(made(text, turn), d, 1, 6));
          check.due("17: kindFor by trying", made(text, turn).kindFor(d), longest(made(text, turn), d, 0, 7));
        }
        for (int h : hs) {
          check.due("18: ice by trying", made(text, turn).ice(12, h), triedIce(made(text, turn), 12, h));
          check.due("19: blocks by trying", made(text, turn).blocks(turn, h), triedBlocks(made(text, turn), turn, h));
          check.due("20: bears by trying", made(text, turn).bears(turn, h), triedBears(made(text, turn), turn, h));
          check.due("21: swap by trying", made(text, turn).swap(h), triedSwap(made(text, turn), h));
          check.due("22: law by trying", made(text, turn).law(h), triedLaw(made(text, turn), h));
        }
      }
    }
  }

  private static WaxTreaties made(String text, int turns) {
    WaxTreaties x = Check.made(text);
    for (int turn = 0; turn < turns; turn++) {
      x.hours(7);
      x.renew(1);
    }
    return x;
  }

  private static int longest(WaxTreaties x, int deed, int what, int many) {
    int best = -1;
    int longest = -1;
    int was = x.of(deed, what);
    for (int v = 0; v < many; v++) {
      x.change(deed, what, v);
      int end = x.ends(deed);
      end = end == Check.NONE ? 101 : end;
      if (end > longest) {
        best = v;
        longest = end;
      }
    }
    x.change(deed, what, was);
    return best;
  }

  private static int holding(WaxTreaties x, int h) {
    return Integer.bitCount(x.ahead(h, 0));
  }

  private static int triedIce(WaxTreaties x, int n, int h) {
    int best = -1;
    int most = -1;
    for (int s = 0; s < 6; s++) {
      int was = x.shelf(s, 1, 0);
      x.shelf(s, 1, Math.min(99, was + n));
      if (holding(x, h) > most) {
        best = s;
        most = holding(x, h);
      }
      x.shelf(s, 1, was);
    }
    return best;
  }

  private static int triedSwap(WaxTreaties x, int h) {
    int most = holding(x, h);
    int best = Check.NONE;
    for (int a = 0; a < x.count(1); a++) {
      for (int b = a + 1; b < x.count(1); b++) {
        x.change(b, 1, x.change(a, 1, x.of(b, 1)));
        if (holding(x, h) > most) {
          best = 10 * a + b;
          most = holding(x, h);
        }
        x.change(b, 1, x.change(a, 1, x.of(b, 1)));
      }
    }
    return best;
  }

  private static int triedLaw(WaxTreaties x, int h) {
    int best = -1;
    int most = -1;
    x.image();
    for (int k = 0; k < 7; k++) {
      for (int d = 0; d < x.count(1); d++) {
        x.change(d, 0, k);
      }
      if (holding(x, h) > most) {
        best = k;
        most = holding(x, h);
      }
      x.undo();
    }
    return best;
  }

  private static int triedBlocks(WaxTreaties x, int deed, int h) {
    int shelf = x.of(deed, 1);
    int was = x.shelf(shelf, 1, 0);
    int fewest = Check.NONE;
    for (int n = 99; n >= 0; n--) {
      x.shelf(shelf, 1, Math.min(99, was + n));
      if ((x.ahead(h, 0) >> deed & 1) == 1) {
        fewest = n;
      }
    }
    x.shelf(shelf, 1, was);
    return fewest;
  }

  private static int triedBears(WaxTreaties x, int deed, int h) {
    int was = x.count(2);
    int highest = Check.NONE;
    for (int v = 0; v <= 40; v++) {
      x.summer(v);
      if ((x.ahead(h, 0) >> deed & 1) == 1) {
        highest = v;
      }
    }
    x.summer(was);
    return highest;
  }
}
