/** Promises 38 to 44: spots and sheets. */
public final class SpotsTest {
  private static final Check check = new Check("spots");

  public static void main(String[] args) {
    hold();
    as();
    sheet();
    write();
    copy();
    copyRefusals();
    load();
    judge();
    check.end();
  }

  private static void hold() {
    WaxTreaties x = Check.made("deed 0;tallow 0");
    check.due("38: hold(0, 1)", x.hold(0, 1), 1);
    check.due("38: hold(9, 0)", x.hold(9, 0), 1);
    check.due("38: hold(9, 1)", x.hold(9, 1), 1);
    check.due("38: two", x.count(7), 2);
    check.due("38: nothing", x.hold(9, -1), 1);
    check.due("38: nothing again", x.hold(9, -1), 1);
    check.due("38: one", x.count(7), 1);
    int[][] beyond = {{10, 0}, {-1, 0}, {0, 2}, {0, -2}, {10, -1}};
    for (int[] b : beyond) {
      check.due("38: hold(" + b[0] + ", " + b[1] + ")", x.hold(b[0], b[1]), Check.BEYOND);
    }
    check.due("38: stays", x.as(0, 0), 1);
  }

  private static void as() {
    WaxTreaties x = Check.made("deed 0;double 0;tallow 0;copy 0;stacked 0;buried 0;false 0");
    int[] under = {127, 2 + 16, 4 + 8, 8, 16, 32 + 64, 64};
    for (int d = 0; d < 7; d++) {
      x.hold(9 - d, d);
    }
    for (int kind = 0; kind < 7; kind++) {
      for (int d = 0; d < 7; d++) {
        boolean is = (under[kind] >> d & 1) == 1;
        check.due("39: kind " + d + " as " + kind, x.as(9 - d, kind), is ? d : Check.KIND);
      }
    }
    check.due("39: nothing there", x.as(2, 0), Check.MISSING);
    check.due("39: nothing there", x.as(0, 6), Check.MISSING);
    int[][] beyond = {{10, 0}, {-1, 0}, {9, 7}, {9, -1}, {0, 7}};
    for (int[] b : beyond) {
      check.due("39: as(" + b[0] + ", " + b[1] + ")", x.as(b[0], b[1]), Check.BEYOND);
    }
    x.change(0, 0, 3);
    check.due("39: by its kind now", x.as(9, 2), 0);
    x.hold(9, -1);
    check.due("39: nothing any more", x.as(9, 2), Check.MISSING);
    check.due("status of kind", x.status(2), 49 - 7 - 2 - 2 - 1 - 1 - 2 - 1);
    check.due("status of missing", x.status(5), 3);
  }

  private static void sheet() {
    WaxTreaties x = new WaxTreaties();
    check.due("40: sheet(0, 8, 40)", x.sheet(0, 8, 40), 40);
    check.due("40: sheet(3, 32, 0)", x.sheet(3, 32, 0), 0);
    check.due("40: none, but there", x.write(3, 0, 0), Check.BEYOND);
    check.due("40: sheet(3, 16, 2)", x.sheet(3, 16, 2), 2);
    check.due("40: missing", x.sheet(3, 0, 5), 0);
    check.due("40: it is", x.write(3, 0, 0), Check.MISSING);
    check.due("40: missing again", x.sheet(3, 0, 0), 0);
    int[][] beyond = {{4, 8, 1}, {-1, 8, 1}, {0, 1, 1}, {0, 64, 1}, {0, -8, 1}, {0, 24, 1}, {0, 8, 41}, {0, 0, 41}, {4, 8, -1}, {0, 7, -1}};
    for (int[] b : beyond) {
      check.due("40: sheet(" + b[0] + ", " + b[1] + ", " + b[2] + ")", x.sheet(b[0], b[1], b[2]), Check.BEYOND);
    }
    check.due("40: size", x.sheet(0, 8, -1), Check.SIZE);
    check.due("40: size, missing too", x.sheet(0, 0, -1), Check.SIZE);
    check.due("40: size", x.sheet(0, 32, Integer.MIN_VALUE), Check.SIZE);
    check.due("40: stays", x.write(0, 39, 5), 1);
    check.due("status of size", x.status(6), 3);
    // All 0 anew: wax 0 ends a load.
    x.deed(0, 0);
    x.write(0, 0, 5);
    check.due("40: it holds 5", x.load(0), 1);
    x.sheet(0, 8, 1);
    check.due("40: it holds 0", x.load(0), 0);
    x.write(0, 0, 5);
    x.sheet(0, 0, 0);
    x.sheet(0, 8, 1);
    check.due("40: it holds 0 again", x.load(0), 0);
  }

  /** A number of a sheet, told by what it does as a copied WAX or by where the reader stops. */
  private static int told(int bits, int v) {
    WaxTreaties x = new WaxTreaties();
    x.deed(0, 5);
    x.sheet(1, bits, 1);
    x.write(1, 0, v);
    return x.load(1) == 1 ? x.of(0, 2) : -1;
  }

  private static void write() {
    check.due("41: 8 bits", told(8, 99), 99);
    check.due("41: 8 bits of more", told(8, 256 + 7), 7);
    check.due("41: 8 bits of less", told(8, -256 + 7), 7);
    check.due("41: 255 is -1", told(8, 255), -1);
    check.due("41: 16 bits of more", told(16, 65536 + 7), 7);
    check.due("41: 16 bits", told(16, 256 + 7), -1);
    check.due("41: 65535 is -1", told(16, 65535), -1);
    check.due("41: 65536 less 9", told(16, 65527), -1);
    check.due("41: 32 bits", told(32, 65536 + 7), -1);
    check.due("41: 32 bits", told(32, 98), 98);
    WaxTreaties x = new WaxTreaties();
    check.due("41: missing", x.write(0, 0, 0), Check.MISSING);
    check.due("41: missing first", x.write(0, 99, 0), Check.MISSING);
    x.sheet(0, 8, 3);
    check.due("41: write(0, 2, 1)", x.write(0, 2, 1), 1);
    check.due("41: write(0, 3, 1)", x.write(0, 3, 1), Check.BEYOND);
    check.due("41: write(0, -1, 1)", x.write(0, -1, 1), Check.BEYOND);
    check.due("41: write(4, 0, 1)", x.write(4, 0, 1), Check.BEYOND);
    check.due("41: write(-1, 0, 1)", x.write(-1, 0, 1), Check.BEYOND);
  }

  /** The first eight numbers of a sheet, told by load(), as digits; 0 where it ends. */
  private static int digits(WaxTreaties x, int s) {
    int came = x.load(s);
    int digits = 0;
    for (int d = 0; d < 8; d++) {
      digits = digits * 10 + (d < came ? x.of(d, 2) : 0);
    }
    return digits;
  }

  private static WaxTreaties withSheets() {
    WaxTreaties x = Check.made("deed 0;deed 0;deed 0;deed 0;deed 0;deed 0;deed 0;deed 0");
    for (int s = 0; s < 2; s++) {
      x.sheet(s, 16, 8);
      for (int i = 0; i < 8; i++) {
        x.write(s, i, s == 0 ? i + 1 : 9);
      }
    }
    return x;
  }

  private static void copy() {
    WaxTreaties x = withSheets();
    check.due("42: to another", x.copy(0, 2, 1, 0, 3), 3);
    check.due("42: came", digits(x, 1), 34599999);
    check.due("42: the first stays", digits(x, 0), 12345678);
    check.due("42: ahead in itself", x.copy(0, 0, 0, 2, 5), 5);
    check.due("42: as they were", digits(x, 0), 12123458);
    x = withSheets();
    check.due("42: back in itself", x.copy(0, 3, 0, 1, 5), 5);
    check.due("42: as they were", digits(x, 0), 14567878);
    check.due("42: all", x.copy(0, 0, 1, 0, 8), 8);
    check.due("42: all came", digits(x, 1), 14567878);
    check.due("42: none", x.copy(0, 8, 1, 8, 0), 0);
    check.due("42: on itself", x.copy(0, 0, 0, 0, 8), 8);
    check.due("42: stays", digits(x, 0), 14567878);
    x.write(0, 0, 99);
    check.due("42: a copy is its own", digits(x, 1), 14567878);
  }

  private static void copyRefusals() {
    WaxTreaties x = withSheets();
    x.sheet(2, 8, 8);
    int max = Integer.MAX_VALUE;
    int[][] calls = {
      {4, 0, 0, 0, 1}, {-1, 0, 0, 0, 1}, {0, 0, 4, 0, 1}, {0, 0, -1, 0, 1}, {3, 0, 4, 0, 1}, {4, 0, 3, 0, 1},
      {3, 0, 0, 0, 1}, {0, 0, 3, 0, 1}, {3, 0, 3, 0, 1}, {3, 0, 2, 0, 1}, {3, 0, 0, -1, 99},
      {2, 0, 0, 0, 1}, {0, 0, 2, 0, 1}, {0, -1, 2, -1, 99},
      {0, 0, 1, 0, 9}, {0, 8, 1, 0, 1}, {0, 0, 1, 8, 1}, {0, 1, 1, 0, 8}, {0, 0, 1, 1, 8}, {0, -1, 1, 0, 1},
      {0, 0, 1, -1, 1}, {0, 0, 1, 0, -1}, {0, max, 1, 0, max},
      {0, 0, 1, max, max}, {0, 1, 1, 1, max}, {0, 8, 1, 8, -8}, {0, 0, 1, 0, Integer.MIN_VALUE}, {2, 0, 2, 1, 8}
    };
    for (int i = 0; i < calls.length; i++) {
      int[] c = calls[i];
      int due = i < 6 || i >= 14 ? Check.BEYOND : i < 11 ? Check.MISSING : Check.KIND;
      check.due("42: copy " + i, x.copy(c[0], c[1], c[2], c[3], c[4]), due);
    }
    check.due("42: nothing changes", digits(x, 0), 12345678);
    check.due("42: nothing changes", digits(x, 1), 99999999);
  }

  private static void load() {
    WaxTreaties x = Check.made("deed 0;deed 0;deed 0");
    x.sheet(0, 8, 5);
    check.due("43: 0 is none", x.load(0), 0);
    int[] numbers = {1, 99, 5, 6, 7};
    for (int i = 0; i < 5; i++) {
      x.write(0, i, numbers[i]);
    }
    check.due("43: as many as deeds", x.load(0), 3);
    check.due("43: wax", x.of(0, 2) * 10000 + x.of(1, 2) * 100 + x.of(2, 2), 19905);
    x.write(0, 0, 8);
    x.write(0, 1, 100);
    check.due("43: 100 ends it", x.load(0), 1);
    check.due("43: wax", x.of(0, 2) * 10000 + x.of(1, 2) * 100 + x.of(2, 2), 89905);
    x.write(0, 1, -5);
    check.due("43: -5 ends it", x.load(0), 1);
    x.sheet(0, 8, 2);
    x.write(0, 0, 3);
    x.write(0, 1, 3);
    check.due("43: as many as numbers", x.load(0), 2);
    x.sheet(0, 32, 0);
    check.due("43: no numbers", x.load(0), 0);
    check.due("43: missing", x.load(1), Check.MISSING);
    check.due("43: load(4)", x.load(4), Check.BEYOND);
    check.due("43: load(-1)", x.load(-1), Check.BEYOND);
    WaxTreaties y = new WaxTreaties();
    y.sheet(3, 16, 1);
    y.write(3, 0, 50);
    check.due("43: no deeds", y.load(3), 0);
  }

  private static void judge() {
    WaxTreaties x = Check.made("summer 40;shutter 0 open;deed 0;deed 5");
    x.hours(6);
    int[] soft = {0, 4, 12, 12, 12};
    x.sheet(2, 8, 5);
    for (int i = 0; i < 5; i++) {
      x.write(2, i, soft[i]);
    }
    check.due("44: all are", x.judge(2, 0), 0);
    check.due("44: the second isn't", x.judge(2, 1), 2);
    x.write(2, 4, 13);
    check.due("44: the last isn't", x.judge(2, 0), 5);
    x.write(2, 3, 11);
    check.due("44: the first that isn't", x.judge(2, 0), 4);
    x.write(2, 0, -1);
    check.due("44: none is", x.judge(2, 0), 1);
    check.due("44: nothing changes", x.count(0) * 1000 + x.now(3), 6000);
    x.sheet(2, 8, 0);
    check.due("44: no numbers", x.judge(2, 0), 0);
    check.due("44: judge(4, 0)", x.judge(4, 0), Check.BEYOND);
    check.due("44: judge(-1, 0)", x.judge(-1, 0), Check.BEYOND);
    check.due("44: missing", x.judge(1, 0), Check.MISSING);
    check.due("44: missing ahead of no such deed", x.judge(1, 2), Check.MISSING);
    check.due("44: judge(2, 2)", x.judge(2, 2), Check.BEYOND);
    check.due("44: judge(2, -1)", x.judge(2, -1), Check.BEYOND);
    WaxTreaties y = Check.at(9990);
    y.deed(0, 5);
    y.sheet(0, 32, 9);
    check.due("44: to the last", y.judge(0, 0), 0);
    y.sheet(0, 32, 10);
    check.due("44: too far", y.judge(0, 0), Check.STATE);
    check.due("44: beyond first", y.judge(0, 1), Check.BEYOND);
  }
}
