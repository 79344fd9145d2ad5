/** The edges of promises 16 to 22, a case for each sentence that names one. */
public final class PlacesEdgesTest {
  private static final String ORDER = "'Each act tells its findings in the order in which they are asked' ";
  private static final String FEW_HOURS = "'h HOURS (1 to 100) AHEAD' ";
  private static final String LATE = "'STATE: HOUR would be above 9999' ";
  private static final String EIGHT = "say[deed 0; deed 0; deed 0; deed 0; deed 0; deed 0; deed 0; deed 0]; ";
  /** Without ice it RUNS by noon; with it it stands. */
  private static final String WARM = "say[summer 40; deed 0 wax 44]; ";
  private static final String WARM_STAYS = "now(0) = 0; of(0,3) = 0; now(4) = 0; of(0,0) = 0; of(0,1) = 0; count(2) = 40; ends(0) = 12";

  public static void main(String[] args) {
    Edge edge = new Edge("places edges");
    cases(edge);
    edge.end();
  }

  static void cases(Edge e) {
    byEnds(e, 16, "place");
    byEnds(e, 17, "kindFor");
    place(e);
    kindFor(e);
    hours(e, 18, "ice(5,");
    hours(e, 19, "blocks(0,");
    hours(e, 20, "bears(0,");
    hours(e, 21, "swap(");
    hours(e, 22, "law(");
    deeds(e, 19, "blocks");
    deeds(e, 20, "bears");
    ice(e);
    blocks(e);
    bears(e);
    swap(e);
    law(e);
  }

  /** What place() and kindFor() refuse alike. */
  private static void byEnds(Edge e, int promise, String act) {
    String p = promise + " ";
    String state = promise == 16 ? "'STATE: HOUR is above 9899' " : "'STATE likewise' ";
    e.edge(p + "'BEYOND.' there are no DEEDS", "", act + "(0) = BEYOND", "count(1) = 0");
    e.edge(p + "'BEYOND.' a DEED too small", WARM, act + "(-1) = BEYOND", WARM_STAYS);
    e.edge(p + "'BEYOND.' a DEED too large", WARM, act + "(1) = BEYOND", WARM_STAYS);
    e.edge(p + "'BEYOND.' a ninth DEED", EIGHT, act + "(8) = BEYOND", act + "(7) = 0; count(1) = 8");
    e.edge(p + "'BEYOND.' the least int", WARM, act + "(MIN) = BEYOND", WARM_STAYS);
    e.edge(p + "'BEYOND.' the greatest int", WARM, act + "(MAX) = BEYOND", WARM_STAYS);
    e.edge(p + state + "9900", "at[9900]; deed(2,3); ", act + "(0) = STATE", "now(0) = 9900; of(0,0) = 2; of(0,1) = 3");
    e.edge(p + state + "9899 isn't", "at[9899]; deed(2,3); ", act + "(0) = 0", "now(0) = 9899; of(0,0) = 2; of(0,1) = 3");
    e.edge(p + state + "the last HOUR", "at[9999]; deed(2,3); ", act + "(0) = STATE", "now(0) = 9999; of(0,0) = 2; of(0,1) = 3");
    e.edge(p + ORDER + "BEYOND ahead of STATE", "at[9900]; deed(2,3); ", act + "(1) = BEYOND", "status(4) = 0; " + act + "(0) = STATE");
    e.edge(p + "'of several that would do the least number counts' it HOLDS anyhow by 100", "deed(2,3); ", act + "(0) = 0", "of(0,0) = 2; of(0,1) = 3");
    e.edge(p + "'of several that would do the least number counts' it has RUN", "deed(2,3); change(0,3,50); hours(1); ", act + "(0) = 0", "of(0,0) = 2; of(0,1) = 3; ends(0) = 0");
    e.edge(p + "'of several that would do the least number counts' what it HANGS ON has RUN", "say[deed 5; tallow 3 on 0]; change(0,3,50); hours(1); ", act + "(1) = 0", "of(1,1) = 3; ends(1) = 0");
  }

  private static void place(Edge e) {
    e.edge("16 'one that doesn't end by 100: 101' it beats one that ends at 100", "at[10]; say[summer 40; deed 0 wax 44; ice 0 99]; ", "place(0) = 1", "ends(0) = 100; of(0,1) = 0; change(0,1,1) = 0; ends(0) = NONE");
    e.edge("16 'The SHELF on which, being laid there now' the topmost", "say[summer 40; ice 0 99; deed 5 wax 42; candle 1 here; candle 2 here; shutter 1 open; shutter 2 open; candle 3 here; candle 4 here; candle 5 here; shutter 3 open; shutter 4 open; shutter 5 open]; ", "place(0) = 0", "of(0,1) = 5");
    e.edge("16 'The SHELF on which, being laid there now' the last", "say[summer 40; deed 0 wax 20]; ", "place(0) = 5", "of(0,1) = 0; change(0,1,5) = 0; ends(0) = NONE; change(0,1,4) = 5; ends(0) = 12");
    e.edge("16 'The SHELF on which, being laid there now' none is better than its own", "say[summer 40; deed 5 wax 20]; ", "place(0) = 5", "of(0,1) = 5");
  }

  private static void kindFor(Edge e) {
    e.edge("17 'The KIND as which it HOLDS longest' 101 beats one that ends at 100", "at[10]; say[summer 40; deed 0 wax 44; ice 0 99]; ", "kindFor(0) = 1", "ends(0) = 100; of(0,0) = 0; change(0,0,1) = 0; ends(0) = NONE");
    e.edge("17 'The KIND as which it HOLDS longest' the least", "say[copy 0]; ", "kindFor(0) = 0", "of(0,0) = 3");
    e.edge("17 'The KIND as which it HOLDS longest' the greatest that can be", "say[summer 40; shutter 0 open; deed 0]; ", "kindFor(0) = 5", "of(0,0) = 0; ends(0) = 9");
    e.edge("17 'The KIND as which it HOLDS longest' its SOFT stays as it is", "say[deed 0]; change(0,3,19); ", "kindFor(0) = 1", "of(0,3) = 19; ends(0) = 1");
  }

  /** What an act refuses of its hours; of the DEED it answers where it stands. */
  private static void hours(Edge e, int promise, String act) {
    String p = promise + " ";
    e.edge(p + FEW_HOURS + "none", WARM, act + "0) = BEYOND", WARM_STAYS);
    e.edge(p + FEW_HOURS + "below 0", WARM, act + "-1) = BEYOND", WARM_STAYS);
    e.edge(p + FEW_HOURS + "too many", WARM, act + "101) = BEYOND", WARM_STAYS);
    e.edge(p + FEW_HOURS + "the least int", WARM, act + "MIN) = BEYOND", WARM_STAYS);
    e.edge(p + FEW_HOURS + "the greatest int", WARM, act + "MAX) = BEYOND", WARM_STAYS);
    String deed = "say[summer 15; deed 0 wax 70; deed 1 wax 70]; ";
    int due = promise == 20 ? 40 : promise == 21 ? -1000004 : 0;
    String stays = "of(0,1) = 0; of(1,1) = 1; now(4) = 0; count(2) = 15; of(0,0) = 0";
    e.edge(p + FEW_HOURS + "the fewest", deed, act + "1) = " + due, "now(0) = 0; " + stays);
    e.edge(p + FEW_HOURS + "the most", deed, act + "100) = " + due, "now(0) = 0; " + stays);
    e.edge(p + LATE + "by 1 of 100", "at[9900]; " + deed, act + "100) = STATE", "now(0) = 9900; " + stays);
    e.edge(p + LATE + "not by 99", "at[9900]; " + deed, act + "99) = " + due, "now(0) = 9900; " + stays);
    e.edge(p + LATE + "by 1 of 1", "at[9999]; " + deed, act + "1) = STATE", "now(0) = 9999; " + stays);
    e.edge(p + LATE + "just 9999 by 1", "at[9998]; " + deed, act + "1) = " + due, "now(0) = 9998; " + stays);
    e.edge(p + LATE + "just 9999 by 100", "at[9899]; " + deed, act + "100) = " + due, "now(0) = 9899; " + stays);
    e.edge(p + ORDER + "BEYOND ahead of STATE, too many HOURS", "at[9999]; " + deed, act + "101) = BEYOND", "status(4) = 0; " + stays);
    e.edge(p + ORDER + "BEYOND ahead of STATE, no HOURS", "at[9999]; " + deed, act + "0) = BEYOND", "status(4) = 0; " + stays);
  }

  private static void deeds(Edge e, int promise, String act) {
    String p = promise + " ";
    e.edge(p + "'BEYOND.' there are no DEEDS", "", act + "(0,1) = BEYOND", "count(1) = 0");
    e.edge(p + "'BEYOND.' a DEED too small", WARM, act + "(-1,1) = BEYOND", WARM_STAYS);
    e.edge(p + "'BEYOND.' a DEED too large", WARM, act + "(1,1) = BEYOND", WARM_STAYS);
    e.edge(p + "'BEYOND.' a ninth DEED", EIGHT, act + "(8,1) = BEYOND", "count(1) = 8; now(1) = 255");
    e.edge(p + "'BEYOND.' the least int for a DEED", WARM, act + "(MIN,1) = BEYOND", WARM_STAYS);
    e.edge(p + "'BEYOND.' the greatest int for a DEED", WARM, act + "(MAX,1) = BEYOND", WARM_STAYS);
    e.edge(p + ORDER + "BEYOND ahead of STATE, no such DEED", "at[9999]; deed(0,0); ", act + "(1,1) = BEYOND", "status(4) = 0; " + act + "(0,1) = STATE");
    e.edge(p + ORDER + "STATE ahead of NONE", "at[9998]; deed(0,0); change(0,3,50); hours(1); ", act + "(0,1) = STATE", "status(3) = 0; of(0,4) = 1");
  }

  private static void ice(Edge e) {
    e.edge("18 'n blocks of ICE (1 to 99) more' none", WARM, "ice(0,1) = BEYOND", WARM_STAYS);
    e.edge("18 'n blocks of ICE (1 to 99) more' below 0", WARM, "ice(-1,1) = BEYOND", WARM_STAYS);
    e.edge("18 'n blocks of ICE (1 to 99) more' too many", WARM, "ice(100,1) = BEYOND", WARM_STAYS);
    e.edge("18 'n blocks of ICE (1 to 99) more' the least int", WARM, "ice(MIN,1) = BEYOND", WARM_STAYS);
    e.edge("18 'n blocks of ICE (1 to 99) more' the greatest int", WARM, "ice(MAX,1) = BEYOND", WARM_STAYS);
    e.edge("18 " + ORDER + "BEYOND ahead of STATE, no blocks", "at[9999]; " + WARM, "ice(0,1) = BEYOND", "status(4) = 0; ice(1,1) = STATE");
    // It is so cold there that one block lasts: without it the DEED RUNS in the second HOUR.
    e.edge("18 'n blocks of ICE (1 to 99) more' the fewest", "say[summer 40; deed 5 wax 1]; ", "ice(1,2) = 5", "now(4) = 0; ends(0) = 2");
    e.edge("18 'n blocks of ICE (1 to 99) more' the most", "say[summer 40; deed 5 wax 10]; ", "ice(99,100) = 5", "now(4) = 0; now(0) = 0");
    e.edge("18 '(99 at most there then)' 50 and 50 don't last for 100", "at[10]; say[summer 40; ice 1 50; deed 1 wax 38]; ", "ice(50,100) = 0", "now(4) = 50");
    e.edge("18 '(99 at most there then)' 50 and 50 last for 99", "at[10]; say[summer 40; ice 1 50; deed 1 wax 38]; ", "ice(50,99) = 1", "now(4) = 50");
    e.edge("18 '(99 at most there then)' 99 are there", "at[9]; say[summer 40; ice 1 99; deed 1 wax 38]; ", "ice(99,100) = 0", "shelf(1,1,0) = 99");
    e.edge("18 'so that most PEACES HOLD' there are no DEEDS: the least SHELF", "", "ice(1,1) = 0", "now(4) = 0");
    e.edge("18 'so that most PEACES HOLD' all HOLD anyhow: the least SHELF", "say[deed 4]; ", "ice(9,9) = 0", "now(4) = 0");
    e.edge("18 'so that most PEACES HOLD' eight DEEDS, all of which HOLD with ICE on the last SHELF", "say[summer 40; deed 5 wax 10; deed 5 wax 10; deed 5 wax 10; deed 5 wax 10; deed 5 wax 10; deed 5 wax 10; deed 5 wax 10; deed 5 wax 10]; ", "ice(50,24) = 5", "now(4) = 0; ahead(24,0) = 0");
    e.edge("18 'so that most PEACES HOLD' as many with each of two SHELVES", "say[summer 40; deed 3 wax 24; deed 2 wax 29]; ", "ice(30,24) = 2", "now(4) = 0");
    e.edge("18 'so that most PEACES HOLD' two are more than one", "say[summer 40; deed 2 wax 29; deed 3 wax 24; deed 3 wax 24]; ", "ice(30,24) = 3", "now(4) = 0");
  }

  private static void blocks(Edge e) {
    String nine = "at[9]; " + WARM;
    e.edge("19 'The fewest blocks of ICE (0 to 99) more' none: it HOLDS anyhow", WARM, "blocks(0,11) = 0", "now(4) = 0");
    e.edge("19 'The fewest blocks of ICE (0 to 99) more' all 99", nine, "blocks(0,100) = 99", "now(4) = 0; now(0) = 9");
    e.edge("19 'The fewest blocks of ICE (0 to 99) more' 98", nine, "blocks(0,99) = 98", "now(4) = 0");
    e.edge("19 'The fewest blocks of ICE (0 to 99) more' 39 on 60", nine + "shelf(0,1,60); ", "blocks(0,100) = 39", "now(4) = 60");
    e.edge("19 'The fewest blocks of ICE (0 to 99) more' none on 99", nine + "shelf(0,1,99); ", "blocks(0,100) = 0", "now(4) = 99");
    e.edge("19 '(99 at most there then)' 100 would do", "at[10]; " + WARM, "blocks(0,100) = NONE", "now(4) = 0; now(0) = 10; of(0,3) = 0");
    e.edge("19 '(99 at most there then)' 60 and 40 would do", "at[10]; " + WARM + "shelf(0,1,60); ", "blocks(0,100) = NONE", "now(4) = 60");
    e.edge("19 'NONE.' wax too soft for any", "say[summer 40; deed 0 wax 34]; ", "blocks(0,24) = NONE", "now(4) = 0; ends(0) = 2; now(0) = 0");
    e.edge("19 'NONE.' it has RUN", "deed(0,0); change(0,3,50); hours(1); ", "blocks(0,1) = NONE", "of(0,4) = 1; now(4) = 0");
    e.edge("19 'NONE.' what it HANGS ON has RUN", "say[deed 0; deed 0 on 0]; change(0,3,50); hours(1); ", "blocks(1,1) = NONE", "of(1,4) = 0; now(4) = 0");
    e.edge("19 'on the SHELF of a DEED' ICE there doesn't help what it HANGS ON elsewhere", "say[summer 40; deed 0 wax 44; deed 5 wax 99 on 0]; ", "blocks(1,24) = NONE", "now(4) = 0; blocks(0,24) = 16");
  }

  private static void bears(Edge e) {
    e.edge("20 'The highest SUMMER (0 to 40)' the highest", "deed(0,5); ", "bears(0,100) = 40", "count(2) = 15");
    e.edge("20 'The highest SUMMER (0 to 40)' just 0", "say[deed 0 wax 3; candle 0 here]; ", "bears(0,1) = 0", "count(2) = 15; of(0,3) = 0");
    e.edge("20 'The highest SUMMER (0 to 40)' just 40", "say[deed 0 wax 31]; ", "bears(0,1) = 40", "count(2) = 15");
    e.edge("20 'The highest SUMMER (0 to 40)' just 39", "say[deed 0 wax 30]; ", "bears(0,1) = 39", "count(2) = 15");
    e.edge("20 'NONE.' below 0 doesn't count", "say[deed 0 wax 2; candle 0 here]; ", "bears(0,1) = NONE", "count(2) = 15; of(0,3) = 0; summer(0) = 15; ends(0) = 1");
    e.edge("20 'NONE.' it has RUN", "deed(0,0); change(0,3,50); hours(1); ", "bears(0,1) = NONE", "of(0,4) = 1; count(2) = 15");
    e.edge("20 'NONE.' it RUNS however cold", "deed(0,0); change(0,3,11); ", "bears(0,1) = NONE", "of(0,4) = 0; of(0,3) = 11");
    e.edge("20 'NONE.' what it HANGS ON has RUN", "say[deed 0; deed 0 on 0]; change(0,3,50); hours(1); ", "bears(1,1) = NONE", "of(1,4) = 0");
  }

  private static void swap(Edge e) {
    String better = "say[summer 40; deed 0 wax 36; deed 5 wax 99; deed 5 wax 99]; ";
    e.edge("21 'NONE: no two let more HOLD than as it is' there are no DEEDS", "", "swap(1) = NONE", "count(1) = 0");
    e.edge("21 'NONE: no two let more HOLD than as it is' but one DEED", "say[summer 40; deed 0 wax 36]; ", "swap(24) = NONE", "lie(0) = 1");
    e.edge("21 'NONE: no two let more HOLD than as it is' all HOLD", EIGHT, "swap(24) = NONE", "lie(0) = 255");
    e.edge("21 'NONE: no two let more HOLD than as it is' but as many", "say[summer 40; deed 0 wax 36; deed 5 wax 20]; ", "swap(24) = NONE", "lie(0) = 1; lie(5) = 2");
    e.edge("21 'NONE: no two let more HOLD than as it is' both on one SHELF", "say[summer 40; deed 0 wax 36; deed 0 wax 99]; ", "swap(24) = NONE", "lie(0) = 3");
    e.edge("21 '10 times the lesser, and the other one' 0 and 1", better, "swap(24) = 1", "lie(0) = 1; lie(5) = 6; now(0) = 0");
    e.edge("21 '10 times the lesser, and the other one' 6 and 7",
        "say[summer 40; deed 5 wax 20; deed 5 wax 20; deed 5 wax 20; deed 5 wax 20; deed 5 wax 20; deed 5 wax 20; deed 0 wax 36; deed 5 wax 99]; ",
        "swap(24) = 67", "lie(0) = 64; lie(5) = 191");
    e.edge("21 'the first so' of two as good", better, "swap(24) = 1", "change(1,2,20) = 99; swap(24) = 2");
    e.edge("21 'the first so' the lesser DEED counts first", "say[summer 40; deed 5 wax 99; deed 5 wax 99; deed 0 wax 36]; ", "swap(24) = 2", "change(0,2,20) = 99; swap(24) = 12");
    e.edge("21 'NONE: no two let more HOLD than as it is' behind so few HOURS all HOLD", better, "swap(2) = NONE", "swap(24) = 1");
    e.edge("21 " + ORDER + "STATE ahead of NONE", "at[9999]; ", "swap(1) = STATE", "status(3) = 0");
  }

  private static void law(Edge e) {
    e.edge("22 'The KIND which, all being of it, lets most PEACES HOLD' there are no DEEDS: the least", "", "law(1) = 0", "count(1) = 0");
    e.edge("22 'The KIND which, all being of it, lets most PEACES HOLD' all HOLD anyhow: the least", "say[copy 5; false 5]; ", "law(100) = 0", "of(0,0) = 3; of(1,0) = 6");
    e.edge("22 'The KIND which, all being of it, lets most PEACES HOLD' none HOLDS anyhow: the least", "say[copy 5; false 5]; change(0,3,50); change(1,3,50); hours(1); ", "law(1) = 0", "of(0,0) = 3; of(1,0) = 6");
    e.edge("22 'The KIND which, all being of it, lets most PEACES HOLD' of DOUBLE and STACKED the lesser", "say[summer 0; deed 0]; change(0,3,19); ", "law(1) = 1", "of(0,0) = 0; of(0,3) = 19");
    e.edge("22 'The KIND which, all being of it, lets most PEACES HOLD' eight DEEDS", EIGHT + "change(0,0,3); change(7,0,6); change(7,3,19); ", "law(1) = 1", "of(0,0) = 3; of(7,0) = 6; of(7,3) = 19");
    e.edge("22 'The KIND which, all being of it, lets most PEACES HOLD' the greatest that can be", "say[summer 40; shutter 0 open; deed 0]; ", "law(24) = 5", "of(0,0) = 0");
  }
}
