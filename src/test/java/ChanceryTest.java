/** Promises 1 to 10: a new object, deeds, shelves, summer, sun, heat. */
public final class ChanceryTest {
  private static final Check check = new Check("chancery");

  public static void main(String[] args) {
    newObject();
    deed();
    of();
    feelsByKind();
    change();
    renew();
    shelf();
    summer();
    sun();
    heat();
    lie();
    check.end();
  }

  private static void newObject() {
    WaxTreaties x = new WaxTreaties();
    int[] counts = {0, 0, 15, 0, 0, 0, 1, 0};
    for (int what = 0; what < counts.length; what++) {
      check.due("1: count(" + what + ")", x.count(what), counts[what]);
    }
    int[] nows = {0, 0, 0, 0, 0, 0, 15};
    for (int what = 0; what < nows.length; what++) {
      check.due("1: now(" + what + ")", x.now(what), nows[what]);
    }
    for (int which = -1; which < 7; which++) {
      check.due("1: status(" + which + ")", x.status(which), 0);
    }
    for (int s = 0; s < 6; s++) {
      check.due("1: heat(" + s + ", 0)", x.heat(s, 0), 15 - 6 * s);
      check.due("1: heat(" + s + ", 13)", x.heat(s, 13), 29 - 6 * s);
      check.due("1: lie(" + s + ")", x.lie(s), 0);
    }
    for (int spot = 0; spot < 10; spot++) {
      check.due("1: as(" + spot + ", 0)", x.as(spot, 0), Check.MISSING);
    }
    for (int s = 0; s < 4; s++) {
      check.due("1: write(" + s + ", 0, 0)", x.write(s, 0, 0), Check.MISSING);
    }
    check.due("1: undo()", x.undo(), Check.NONE);
    check.due("1: tear()", x.tear(), 0);
    check.due("1: wipe()", x.wipe(), 0);
    WaxTreaties y = new WaxTreaties();
    x.deed(0, 0);
    x.summer(1);
    check.due("1: another's count(1)", y.count(1), 0);
    check.due("1: another's count(2)", y.count(2), 15);
  }

  private static void deed() {
    WaxTreaties x = new WaxTreaties();
    check.due("2: deed(7, 0)", x.deed(7, 0), Check.BEYOND);
    check.due("2: deed(-1, 0)", x.deed(-1, 0), Check.BEYOND);
    check.due("2: deed(0, 6)", x.deed(0, 6), Check.BEYOND);
    check.due("2: deed(0, -1)", x.deed(0, -1), Check.BEYOND);
    check.due("2: none made", x.count(1), 0);
    for (int d = 0; d < 8; d++) {
      check.due("2: deed", x.deed(d % 7, d % 6), d);
      int[] due = {d % 7, d % 6, 40, 0, 0, -1};
      for (int what = 0; what < due.length; what++) {
        check.due("2: of(" + d + ", " + what + ")", x.of(d, what), due[what]);
      }
      check.due("2: holds", x.of(d, 9), 1);
    }
    check.due("2: full", x.deed(0, 0), Check.FULL);
    check.due("2: beyond first", x.deed(7, 0), Check.BEYOND);
    check.due("2: eight", x.count(1), 8);
    check.due("2: status(0)", x.status(0), 5);
    check.due("2: status(1)", x.status(1), 1);
  }

  private static void of() {
    WaxTreaties x = Check.made("deed 2 wax 33; copy 4 wax 20 on 0; double 1 on 1");
    int[][] due = {{0, 2, 33, 0, 0, -1, 33, 10}, {3, 4, 20, 0, 0, 0, 12, 5}, {1, 1, 40, 0, 0, 1, 40, 20}};
    for (int d = 0; d < 3; d++) {
      for (int what = 0; what < 8; what++) {
        check.due("3: of(" + d + ", " + what + ")", x.of(d, what), due[d][what]);
      }
      check.due("3: of(" + d + ", 9)", x.of(d, 9), 1);
      check.due("3: of(" + d + ", 10)", x.of(d, 10), Check.BEYOND);
      check.due("3: of(" + d + ", -1)", x.of(d, -1), Check.BEYOND);
    }
    check.due("3: of(3, 0)", x.of(3, 0), Check.BEYOND);
    check.due("3: of(-1, 0)", x.of(-1, 0), Check.BEYOND);
    check.due("3: feels at 0", x.of(0, 8), 3);
    Check.pass(x, 13);
    check.due("3: feels at 13", x.of(0, 8), 17);
    x.change(0, 3, 10);
    x.hours(1);
    check.due("3: has run", x.of(0, 4), 0);
    x.change(0, 3, 11);
    x.hours(1);
    check.due("3: has run", x.of(0, 4), 1);
    for (int d = 0; d < 3; d++) {
      check.due("3: of(" + d + ", 9) by what it hangs on", x.of(d, 9), 0);
    }
    check.due("3: of(1, 4)", x.of(1, 4), 0);
  }

  private static void feelsByKind() {
    // 40 by summer and 12 by the candle are 52.
    WaxTreaties x = Check.made("summer 40; candle 0 here; deed 0; double 0; tallow 0; copy 0; stacked 0; buried 0; false 0");
    int[] feels = {52, 52, 52, 52, 48, 34, 34};
    int[] stands = {40, 40, 32, 32, 40, 40, 35};
    int[] runsAt = {10, 20, 10, 5, 20, 10, 10};
    for (int d = 0; d < 7; d++) {
      check.due("3: kind " + d + " feels", x.of(d, 8), feels[d]);
      check.due("3: kind " + d + " stands", x.of(d, 6), stands[d]);
      check.due("3: kind " + d + " runs at", x.of(d, 7), runsAt[d]);
    }
    // Quotients below 0 are cut too: two thirds of -40 are -26.
    WaxTreaties y = Check.made("summer 0; ice 5 3; deed 5; double 5; tallow 5; copy 5; stacked 5; buried 5; false 5");
    int[] cold = {-40, -40, -40, -40, -44, -26, -26};
    for (int d = 0; d < 7; d++) {
      check.due("3: kind " + d + " feels cold", y.of(d, 8), cold[d]);
    }
  }

  private static void change() {
    WaxTreaties x = Check.made("deed 2; deed 3; deed 4");
    check.due("4: kind", x.change(1, 0, 6), 0);
    check.due("4: kind again", x.change(1, 0, 0), 6);
    check.due("4: shelf", x.change(1, 1, 5), 3);
    check.due("4: wax", x.change(1, 2, 99), 40);
    check.due("4: wax again", x.change(1, 2, 1), 99);
    check.due("4: soft", x.change(1, 3, 99), 0);
    check.due("4: soft again", x.change(1, 3, 0), 99);
    check.due("4: hanging on", x.change(1, 5, 0), -1);
    check.due("4: hanging on none", x.change(1, 5, -1), 0);
    check.due("4: hanging on", x.change(2, 5, 1), -1);
    int[] due = {0, 5, 1, 0, 0, -1};
    for (int what = 0; what < due.length; what++) {
      check.due("4: of(1, " + what + ")", x.of(1, what), due[what]);
    }
    check.due("4: others stay", x.of(0, 1), 2);
    int[][] beyond = {
      {3, 0, 0}, {-1, 0, 0}, {1, 0, 7}, {1, 0, -1}, {1, 1, 6}, {1, 1, -1}, {1, 2, 0}, {1, 2, 100},
      {1, 3, -1}, {1, 3, 100}, {1, 4, 0}, {1, 4, 1}, {1, 5, 1}, {1, 5, 2}, {1, 5, -2}, {0, 5, 0},
      {1, 6, 0}, {1, -1, 0}
    };
    for (int[] b : beyond) {
      check.due("4: change(" + b[0] + ", " + b[1] + ", " + b[2] + ")", x.change(b[0], b[1], b[2]), Check.BEYOND);
    }
    for (int what = 0; what < due.length; what++) {
      check.due("4: still of(1, " + what + ")", x.of(1, what), due[what]);
    }
    check.due("4: first hangs on none", x.change(0, 5, -1), -1);
    x.change(0, 3, 99);
    check.due("4: soft alone doesn't run", x.of(0, 4), 0);
  }

  private static void renew() {
    WaxTreaties x = Check.made("deed 0; deed 0");
    x.change(0, 3, 50);
    check.due("5: not run", x.renew(0), 0);
    check.due("5: soft", x.of(0, 3), 0);
    x.change(0, 3, 50);
    x.change(1, 3, 50);
    x.hours(1);
    check.due("5: run", x.now(2), 3);
    check.due("5: renew(1)", x.renew(1), 1);
    check.due("5: soft", x.of(1, 3), 0);
    check.due("5: one has run", x.now(2), 1);
    check.due("5: again", x.renew(1), 0);
    check.due("5: renew(2)", x.renew(2), Check.BEYOND);
    check.due("5: renew(-1)", x.renew(-1), Check.BEYOND);
    check.due("5: the other's soft", x.of(0, 3), 49);
  }

  private static void shelf() {
    WaxTreaties x = new WaxTreaties();
    check.due("6: shutter", x.shelf(5, 0, 1), 0);
    check.due("6: shutter again", x.shelf(5, 0, 1), 1);
    check.due("6: open", x.count(3), 32);
    check.due("6: shut", x.shelf(5, 0, 0), 1);
    check.due("6: open none", x.count(3), 0);
    check.due("6: ice", x.shelf(0, 1, 99), 0);
    check.due("6: ice again", x.shelf(0, 1, 4), 99);
    check.due("6: ice of all", x.count(4), 4);
    check.due("6: candle", x.shelf(3, 2, 1), 0);
    check.due("6: candle again", x.shelf(3, 2, 0), 1);
    check.due("6: candle at last", x.shelf(3, 2, 1), 0);
    int[][] beyond = {
      {6, 0, 0}, {-1, 0, 0}, {6, 1, 0}, {-1, 2, 0}, {0, 0, 2}, {0, 0, -1}, {0, 1, 100}, {0, 1, -1},
      {0, 2, 2}, {0, 2, -1}, {0, 3, 0}, {0, -1, 0}, {0, 3, 2}
    };
    for (int[] b : beyond) {
      check.due("6: shelf(" + b[0] + ", " + b[1] + ", " + b[2] + ")", x.shelf(b[0], b[1], b[2]), Check.BEYOND);
    }
    check.due("6: heat of 3", x.heat(3, 0), 15 - 18 + 12);
    check.due("6: heat of 0", x.heat(0, 0), 5);
    check.due("6: open none at last", x.count(3), 0);
  }

  private static void summer() {
    WaxTreaties x = new WaxTreaties();
    check.due("7: summer(40)", x.summer(40), 15);
    check.due("7: summer(0)", x.summer(0), 40);
    check.due("7: summer(41)", x.summer(41), Check.BEYOND);
    check.due("7: summer(-1)", x.summer(-1), Check.BEYOND);
    check.due("7: stays", x.count(2), 0);
    check.due("7: heat", x.heat(0, 0), 0);
  }

  private static void sun() {
    WaxTreaties x = new WaxTreaties();
    int[] due = {0, 0, 0, 0, 0, 0, 0, 4, 8, 12, 16, 20, 24, 28, 24, 20, 16, 12, 8, 4, 0, 0, 0, 0};
    for (int hour = 0; hour < 24; hour++) {
      check.due("8: sun(" + hour + ")", x.sun(hour), due[hour]);
      check.due("8: sun of day 9", x.sun(216 + hour), due[hour]);
    }
    check.due("8: sun(9997)", x.sun(9997), 28);
    check.due("8: sun(9999)", x.sun(9999), 20);
    check.due("8: sun(-1)", x.sun(-1), Check.BEYOND);
    check.due("8: sun(10000)", x.sun(10000), Check.BEYOND);
  }

  private static void heat() {
    WaxTreaties x = Check.made("summer 20; shutter 2 open; ice 3 1; candle 4 here; shutter 5 open; ice 5 2; candle 5 here");
    int[] night = {20, 14, 8, -8, 8, -8};
    int[] noon = {34, 28, 36, 6, 22, 20};
    int[] ten = {28, 22, 24, 0, 16, 8};
    for (int s = 0; s < 6; s++) {
      check.due("9: heat(" + s + ", 3)", x.heat(s, 3), night[s]);
      check.due("9: heat(" + s + ", 13)", x.heat(s, 13), noon[s]);
      check.due("9: heat(" + s + ", 9994)", x.heat(s, 9994), ten[s]);
    }
    check.due("9: heat(6, 0)", x.heat(6, 0), Check.BEYOND);
    check.due("9: heat(-1, 0)", x.heat(-1, 0), Check.BEYOND);
    check.due("9: heat(0, -1)", x.heat(0, -1), Check.BEYOND);
    check.due("9: heat(0, 10000)", x.heat(0, 10000), Check.BEYOND);
    check.due("9: heat(0, 9999)", x.heat(0, 9999), 30);
  }

  private static void lie() {
    WaxTreaties x = Check.made("deed 1; deed 5; tallow 1; deed 0");
    int[] due = {8, 5, 0, 0, 0, 2};
    for (int s = 0; s < 6; s++) {
      check.due("10: lie(" + s + ")", x.lie(s), due[s]);
    }
    check.due("10: lie(6)", x.lie(6), Check.BEYOND);
    check.due("10: lie(-1)", x.lie(-1), Check.BEYOND);
    x.change(0, 3, 99);
    x.hours(1);
    check.due("10: those that have run lie too", x.lie(1), 5);
  }
}
