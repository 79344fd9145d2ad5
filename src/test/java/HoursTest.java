/** Promises 11 to 15: hours that go, now, ahead, ends. */
public final class HoursTest {
  private static final Check check = new Check("hours");

  public static void main(String[] args) {
    softening();
    cooling();
    drops();
    ice();
    hours();
    now();
    ahead();
    ends();
    soonest();
    check.end();
  }

  private static void softening() {
    // Shutter open, summer 40: 40 till 6, then 44, 48, 52, .. 68 at 13.
    WaxTreaties x = Check.made("summer 40; shutter 0 open; deed 0; double 0; stacked 0; buried 0; false 0");
    check.due("11: till 6", x.hours(7), 0);
    check.due("11: as much as it stands is no more", x.now(3), 0);
    check.due("11: hour of 7", x.hours(1), 0);
    check.due("11: 44 less 40", x.of(0, 3), 4);
    check.due("11: hour of 8", x.hours(1), 1);
    check.due("11: the deed has run", x.now(2), 1);
    check.due("11: with 12", x.of(0, 3), 12);
    check.due("11: double not at 12", x.of(1, 3), 12);
    check.due("11: hour of 9", x.hours(1), 1);
    check.due("11: the double one has run", x.now(2), 3);
    check.due("11: with 24", x.of(1, 3), 24);
    check.due("11: what has run stays", x.of(0, 3), 12);
    check.due("11: stacked", x.of(2, 3), 12);
    check.due("11: hour of 10", x.hours(1), 1);
    check.due("11: stacked has run", x.now(2), 7);
    check.due("11: false has 2", x.of(4, 3), 2);
    check.due("11: hours of 11 and 12", x.hours(2), 1);
    check.due("11: false has run", x.now(2), 23);
    check.due("11: with 14", x.of(4, 3), 14);
    check.due("11: buried has 2", x.of(3, 3), 2);
    check.due("11: hours of 13 and 14", x.hours(2), 0);
    check.due("11: buried has 9", x.of(3, 3), 9);
    check.due("11: rest of the day", x.hours(9), 0);
    check.due("11: buried has cooled", x.of(3, 3), 0);
    // 99 at most: wax 1, at 13 heat 68.
    WaxTreaties y = Check.made("summer 40; shutter 0 open; deed 0 wax 1");
    Check.pass(y, 13);
    check.due("11: ran long ago", y.of(0, 4), 1);
    y.renew(0);
    y.change(0, 3, 40);
    y.hours(1);
    check.due("11: 99 at most", y.of(0, 3), 99);
  }

  private static void cooling() {
    WaxTreaties x = Check.made("double 0; deed 0");
    x.change(0, 3, 19);
    x.change(1, 3, 1);
    check.due("11: nothing runs", x.hours(1), 0);
    check.due("11: one less", x.of(0, 3), 18);
    check.due("11: one less", x.of(1, 3), 0);
    x.hours(1);
    check.due("11: 0 at least", x.of(1, 3), 0);
    x.change(0, 3, 20);
    check.due("11: 19 doesn't run", x.hours(1), 0);
    x.change(0, 3, 21);
    check.due("11: 20 does, cooling", x.hours(1), 1);
    check.due("11: it stays", x.of(0, 3), 20);
  }

  private static void drops() {
    // 1 runs on shelf 0; 0, 2, 3 (run before) and 4 lie beneath, 5 on the next but one.
    WaxTreaties x = Check.made("deed 1; deed 0; deed 1; deed 1; double 1; deed 2; deed 0; deed 5");
    x.change(3, 3, 20);
    x.change(7, 3, 20);
    check.due("11: two run ahead", x.hours(1), 2);
    check.due("11: a drop on shelf 2", x.of(5, 3), 2);
    check.due("11: none elsewhere", x.of(0, 3) + x.of(1, 3) + x.of(2, 3) + x.of(4, 3) + x.of(6, 3), 0);
    x.change(1, 3, 30);
    x.change(4, 3, 98);
    x.change(5, 3, 0);
    check.due("11: two run", x.hours(1), 2);
    check.due("11: a lesser number had its turn", x.of(0, 3), 3);
    check.due("11: a greater one has it to come", x.of(2, 3), 2);
    check.due("11: what has run takes no drop", x.of(3, 3), 19);
    check.due("11: 99 at most by a drop", x.of(4, 3), 98);
    check.due("11: the drop's drop", x.of(5, 3), 2);
    check.due("11: none on its own shelf", x.of(6, 3), 0);
    check.due("11: those that have run", x.now(2), 2 + 8 + 16 + 128);
    // A drop on a lesser number shows in the next hour.
    WaxTreaties y = Check.made("copy 1; deed 0; deed 0");
    y.change(0, 3, 0);
    y.change(1, 3, 11);
    y.change(2, 3, 11);
    check.due("11: both drop", y.hours(1), 2);
    check.due("11: six in it", y.of(0, 3), 6);
    check.due("11: not run by the drops", y.of(0, 4), 0);
    check.due("11: in its own turn", y.hours(1), 1);
    check.due("11: five then", y.of(0, 3), 5);
    // A drop on a greater number may run it in the same hour.
    WaxTreaties z = Check.made("deed 0; copy 1; copy 2; copy 3");
    z.change(0, 3, 11);
    z.change(1, 3, 3);
    z.change(2, 3, 3);
    z.change(3, 3, 2);
    check.due("11: three at once", z.hours(1), 3);
    check.due("11: the fourth not", z.of(3, 3), 4);
  }

  private static void ice() {
    // Heat of shelf 0: 40 less 10 is 30; of 1: 24; of 2: 18; of 3 with its candle: 24.
    WaxTreaties x = Check.made("summer 40; ice 0 2; ice 1 1; ice 2 5; ice 3 9; candle 3 here; ice 4 1");
    x.hours(1);
    check.due("11: ice after 1", x.now(4), 1 + 0 + 5 + 8 + 1);
    check.due("11: shelf 1 is warmer", x.heat(1, 1), 34);
    x.hours(2);
    check.due("11: ice after 3", x.now(4), 0 + 0 + 5 + 6 + 1);
    // Just 20 is not above 20; 21 is.
    WaxTreaties y = Check.made("summer 30; ice 0 3");
    y.hours(1);
    check.due("11: 20 melts none", y.now(4), 3);
    y.summer(31);
    y.hours(1);
    check.due("11: 21 melts one", y.now(4), 2);
    // The heat of the hour counts, not that of the next.
    WaxTreaties z = Check.made("summer 18; ice 0 5; shutter 0 open");
    z.hours(9);
    check.due("11: till 8", z.now(4), 5);
    z.hours(1);
    check.due("11: 9 has just 20", z.now(4), 5);
    z.hours(1);
    check.due("11: 10 melts", z.now(4), 4);
    // A deed feels the heat with the last block still there.
    WaxTreaties w = Check.made("summer 40; ice 0 1; deed 0 wax 30");
    w.hours(1);
    check.due("11: 30 is no more than 30", w.of(0, 3), 0);
    w.hours(1);
    check.due("11: 40 is", w.of(0, 3), 10);
  }

  private static void hours() {
    WaxTreaties x = new WaxTreaties();
    check.due("11: hours(0)", x.hours(0), Check.BEYOND);
    check.due("11: hours(101)", x.hours(101), Check.BEYOND);
    check.due("11: hours(-1)", x.hours(-1), Check.BEYOND);
    check.due("11: hour stays", x.now(0), 0);
    check.due("11: hours(100)", x.hours(100), 0);
    check.due("11: hours(1)", x.hours(1), 0);
    check.due("11: hour", x.now(0), 101);
    WaxTreaties y = Check.at(9899);
    check.due("11: hours(100) to the last", y.hours(100), 0);
    check.due("11: hour", y.now(0), 9999);
    check.due("11: hours(1) at the last", y.hours(1), Check.STATE);
    check.due("11: hours(101) at the last", y.hours(101), Check.BEYOND);
    WaxTreaties z = Check.at(9900);
    check.due("11: hours(100) too far", z.hours(100), Check.STATE);
    check.due("11: nothing changes", z.now(0), 9900);
    check.due("11: hours(99)", z.hours(99), 0);
    WaxTreaties w = Check.made("deed 0; deed 2; deed 4");
    for (int d = 0; d < 3; d++) {
      w.change(d, 3, 50);
    }
    check.due("11: three run", w.hours(5), 3);
    check.due("11: none more", w.hours(5), 0);
  }

  private static void now() {
    WaxTreaties x = Check.made("deed 0; deed 2 on 0; deed 3; deed 4 on 1; summer 22; ice 5 7; ice 1 2; candle 2 here");
    x.change(0, 3, 30);
    x.change(2, 3, 6);
    x.hours(1);
    check.due("12: hour", x.now(0), 1);
    check.due("12: peaces", x.now(1), 4);
    check.due("12: run", x.now(2), 1);
    check.due("12: soft of all", x.now(3), 29 + 5);
    check.due("12: ice of all", x.now(4), 9);
    check.due("12: the least of the hottest", x.now(5), 0);
    x.shelf(0, 1, 50);
    check.due("12: the hottest", x.now(5), 2);
    x.shelf(5, 2, 1);
    x.shelf(5, 0, 1);
    x.shelf(5, 1, 0);
    check.due("12: by night", x.now(5), 2);
    x.hours(12);
    check.due("12: at 13", x.now(5), 2);
    x.shelf(2, 2, 0);
    check.due("12: at 13 without the candle", x.now(5), 5);
    check.due("12: summer", x.now(6), 22);
    for (int s = 0; s < 6; s++) {
      WaxTreaties y = Check.made("candle " + s + " here;summer 3;ice 0 99");
      y.shelf(s, 0, 1);
      y.hours(13);
      check.due("12: by candle and sun", y.now(5), s);
    }
    check.due("12: now(7)", x.now(7), Check.BEYOND);
    check.due("12: now(-1)", x.now(-1), Check.BEYOND);
    x.renew(0);
    check.due("12: all hold", x.now(1), 15);
  }

  private static void ahead() {
    WaxTreaties x = Check.made("summer 40; shutter 0 open; deed 0; deed 5 on 0; double 0; ice 1 9");
    check.due("13: none yet", x.ahead(8, 1), 0);
    check.due("13: run behind 9", x.ahead(9, 1), 1);
    check.due("13: peaces behind 9", x.ahead(9, 0), 4);
    check.due("13: peaces behind 8", x.ahead(8, 0), 7);
    check.due("13: ice behind 4", x.ahead(4, 2), 5);
    check.due("13: soft behind 8", x.ahead(8, 3), 4);
    check.due("13: soft behind 10", x.ahead(10, 5), 24);
    check.due("13: soft of the cold one", x.ahead(10, 4), 0);
    check.due("13: ahead(0, 2)", x.ahead(0, 2), 9);
    check.due("13: nothing changes", x.now(0) + x.now(2) + x.now(3), 0);
    check.due("13: nor ice", x.now(4), 9);
    int[][] beyond = {{-1, 0}, {101, 0}, {0, -1}, {0, 6}, {0, Integer.MAX_VALUE}, {0, Integer.MIN_VALUE}};
    for (int[] b : beyond) {
      check.due("13: ahead(" + b[0] + ", " + b[1] + ")", x.ahead(b[0], b[1]), Check.BEYOND);
    }
    WaxTreaties y = Check.at(9900);
    check.due("13: ahead(99, 0)", y.ahead(99, 0), 0);
    check.due("13: ahead(100, 0)", y.ahead(100, 0), Check.STATE);
    check.due("13: ahead(100, 3)", y.ahead(100, 3), Check.BEYOND);
    Check.pass(y, 99);
    check.due("13: ahead(0, 0) at the last", y.ahead(0, 0), 0);
    check.due("13: ahead(1, 0) at the last", y.ahead(1, 0), Check.STATE);
  }

  private static void ends() {
    WaxTreaties x = Check.made("summer 40; shutter 0 open; deed 0; double 0; tallow 0; copy 0; stacked 0; buried 0; false 0; deed 5 on 4");
    int[] due = {9, 10, 2, 1, 11, Check.NONE, 13, 11};
    for (int d = 0; d < due.length; d++) {
      check.due("14: ends(" + d + ")", x.ends(d), due[d]);
    }
    check.due("14: nothing changes", x.now(0), 0);
    check.due("14: ends(8)", x.ends(8), Check.BEYOND);
    check.due("14: ends(-1)", x.ends(-1), Check.BEYOND);
    x.hours(11);
    int[] then = {0, 0, 0, 0, 0, Check.NONE, 2, 0};
    for (int d = 0; d < then.length; d++) {
      check.due("14: ends(" + d + ") at 11", x.ends(d), then[d]);
    }
    check.due("14: just behind 100", iced(10).ends(0), 100);
    check.due("14: not by 100", iced(9).ends(0), Check.NONE);
    WaxTreaties z = Check.at(9899);
    z.deed(0, 0);
    check.due("14: at 9899", z.ends(0), Check.NONE);
    check.due("14: beyond first", z.ends(1), Check.BEYOND);
    z.hours(1);
    check.due("14: at 9900", z.ends(0), Check.STATE);
    check.due("14: beyond first at 9900", z.ends(1), Check.BEYOND);
  }

  /** With its ice a deed feels 44 at most; without it 54 at 13: ice for 99 hours, from an hour on. */
  private static WaxTreaties iced(int hour) {
    WaxTreaties x = Check.at(hour);
    Check.read(x, "summer 40; deed 0 wax 44; ice 0 99");
    return x;
  }

  private static void soonest() {
    WaxTreaties x = Check.made("summer 40; shutter 0 open; deed 5; double 0; deed 0; deed 0; stacked 0");
    check.due("15: the least of the first", x.soonest(), 2);
    x.change(3, 3, 1);
    x.hours(7);
    x.change(3, 3, 6);
    check.due("15: the first", x.soonest(), 3);
    x.change(2, 1, 5);
    x.change(3, 1, 5);
    check.due("15: the next", x.soonest(), 1);
    x.hours(9);
    check.due("15: one that has ended", x.soonest(), 1);
    WaxTreaties y = new WaxTreaties();
    check.due("15: no deeds", y.soonest(), Check.NONE);
    y.deed(0, 5);
    check.due("15: none ends", y.soonest(), Check.NONE);
    check.due("15: just behind 100", iced(10).soonest(), 0);
    check.due("15: not by 100", iced(9).soonest(), Check.NONE);
    WaxTreaties z = Check.at(9899);
    check.due("15: at 9899", z.soonest(), Check.NONE);
    z.hours(1);
    check.due("15: at 9900", z.soonest(), Check.STATE);
  }
}
