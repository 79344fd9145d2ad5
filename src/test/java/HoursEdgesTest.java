/** The edges of promises 11 to 15, a case for each sentence that names one. */
public final class HoursEdgesTest {
  private static final String ORDER = "'Each act tells its findings in the order in which they are asked' ";
  private static final String ALL_ON_0 = "say[deed 0; deed 0; deed 0; deed 0; deed 0; deed 0; deed 0; deed 0]; ";
  /** From 10 on the ice lasts 99 hours; the hour without is noon, and runs it. */
  private static final String ICED = "say[summer 40; deed 0 wax 44; ice 0 99]; ";

  public static void main(String[] args) {
    Edge edge = new Edge("hours edges");
    cases(edge);
    edge.end();
  }

  static void cases(Edge e) {
    hoursRefused(e);
    hoursLimits(e);
    softness(e);
    runsAt(e);
    drops(e);
    ice(e);
    now(e);
    aheadRefused(e);
    aheadLimits(e);
    ends(e);
    soonest(e);
  }

  private static void hoursRefused(Edge e) {
    String one = "say[deed 0; ice 0 4]; change(0,3,5); ";
    String same = "now(0) = 0; of(0,3) = 5; now(4) = 4; hours(1) = 0; of(0,3) = 4; now(0) = 1";
    e.edge("11 'n HOURS go (1 to 100)' none", one, "hours(0) = BEYOND", same);
    e.edge("11 'n HOURS go (1 to 100)' below 0", one, "hours(-1) = BEYOND", same);
    e.edge("11 'n HOURS go (1 to 100)' too many", one, "hours(101) = BEYOND", same);
    e.edge("11 'n HOURS go (1 to 100)' the least int", one, "hours(MIN) = BEYOND", same);
    e.edge("11 'n HOURS go (1 to 100)' the greatest int", one, "hours(MAX) = BEYOND", same);
    String late = "say[deed 0]; change(0,3,5); ";
    e.edge("11 'STATE: HOUR would be above 9999' by 1 of 100", "at[9900]; " + late, "hours(100) = STATE",
        "now(0) = 9900; of(0,3) = 5; hours(99) = 0; now(0) = 9999; of(0,3) = 0");
    e.edge("11 'STATE: HOUR would be above 9999' by 1 of 50", "at[9950]; " + late, "hours(50) = STATE", "now(0) = 9950; of(0,3) = 5; hours(1) = 0; of(0,3) = 4");
    e.edge("11 'STATE: HOUR would be above 9999' by 1 of 1", "at[9999]; " + late, "hours(1) = STATE", "now(0) = 9999; of(0,3) = 5");
    e.edge("11 'STATE: HOUR would be above 9999' what would RUN doesn't", "at[9999]; say[deed 0]; change(0,3,50); ", "hours(1) = STATE", "of(0,3) = 50; of(0,4) = 0");
    e.edge("11 " + ORDER + "BEYOND ahead of STATE, too many", "at[9999]; " + late, "hours(101) = BEYOND", "status(4) = 0; now(0) = 9999");
    e.edge("11 " + ORDER + "BEYOND ahead of STATE, none", "at[9999]; " + late, "hours(0) = BEYOND", "status(4) = 0; now(0) = 9999");
  }

  private static void hoursLimits(Edge e) {
    e.edge("11 'n HOURS go (1 to 100)' the fewest", "deed(0,0); change(0,3,5); ", "hours(1) = 0", "now(0) = 1; of(0,3) = 4");
    e.edge("11 'n HOURS go (1 to 100)' the most", "deed(0,5); change(0,3,9); ", "hours(100) = 0", "now(0) = 100; of(0,3) = 0");
    e.edge("11 'HOUR is one more (0 at first; 9999 at most)' just 9999 by 100", "at[9899]; ", "hours(100) = 0", "now(0) = 9999; hours(1) = STATE");
    e.edge("11 'HOUR is one more (0 at first; 9999 at most)' just 9999 by 1", "at[9998]; deed(0,0); change(0,3,11); ", "hours(1) = 1", "now(0) = 9999; hours(1) = STATE");
    e.edge("11 'how many SEALS RUN in them' there are no DEEDS", "", "hours(100) = 0", "now(2) = 0");
    e.edge("11 'how many SEALS RUN in them' all eight in one HOUR",
        ALL_ON_0 + "change(0,3,99); change(1,3,99); change(2,3,99); change(3,3,99); change(4,3,99); change(5,3,99); change(6,3,99); change(7,3,99); ",
        "hours(1) = 8", "now(2) = 255; now(1) = 0; hours(100) = 0");
    e.edge("11 'By numbers each DEED that hasn't RUN' what has doesn't again", "deed(0,0); change(0,3,99); hours(1); ", "hours(100) = 0", "of(0,4) = 1; of(0,3) = 98");
    e.edge("11 'By numbers each DEED that hasn't RUN' made anew it does", "deed(0,0); change(0,3,99); hours(1); renew(0); change(0,3,99); ", "hours(1) = 1", "of(0,4) = 1");
    e.edge("11 'By numbers each DEED that hasn't RUN' of two HOURS each counts", "deed(0,5); deed(0,5); change(0,3,11); hours(1); change(1,3,12); ", "hours(2) = 1", "now(2) = 3");
  }

  private static void softness(Edge e) {
    e.edge("11 'if it FEELS more than it STANDS' just as much is not more", "say[summer 40; deed 0 wax 40]; change(0,3,5); ", "hours(1) = 0", "of(0,3) = 4");
    e.edge("11 'if it FEELS more than it STANDS' one more", "say[summer 40; deed 0 wax 39]; change(0,3,5); ", "hours(1) = 0", "of(0,3) = 6");
    e.edge("11 'if it FEELS more than it STANDS' one less", "say[summer 39; deed 0 wax 40]; change(0,3,5); ", "hours(1) = 0", "of(0,3) = 4");
    e.edge("11 'SOFT is so much more (99 at most)' 90 and 39", "say[summer 40; double 0 wax 1]; change(0,3,90); ", "hours(1) = 1", "of(0,3) = 99");
    e.edge("11 'SOFT is so much more (99 at most)' 60 and 39 are just 99", "say[summer 40; double 0 wax 1]; change(0,3,60); ", "hours(1) = 1", "of(0,3) = 99");
    e.edge("11 'SOFT is so much more (99 at most)' 59 and 39", "say[summer 40; double 0 wax 1]; change(0,3,59); ", "hours(1) = 1", "of(0,3) = 98");
    e.edge("11 'SOFT is so much more (99 at most)' 99 and 1", "say[summer 40; double 0 wax 39]; change(0,3,99); ", "hours(1) = 1", "of(0,3) = 99");
    e.edge("11 'else 1 less (0 at least)' of 0", "deed(0,0); ", "hours(1) = 0", "of(0,3) = 0");
    e.edge("11 'else 1 less (0 at least)' of 1", "deed(0,0); change(0,3,1); ", "hours(1) = 0", "of(0,3) = 0");
    e.edge("11 'else 1 less (0 at least)' of 1 in two HOURS", "deed(0,0); change(0,3,1); ", "hours(2) = 0", "of(0,3) = 0");
  }

  private static void runsAt(Edge e) {
    int[] at = {10, 20, 10, 5, 20, 10, 10};
    String[] words = {"DEED", "DOUBLE", "TALLOW", "COPY", "STACKED", "BURIED", "FALSE"};
    for (int kind = 0; kind < at.length; kind++) {
      String made = "deed(" + kind + ",5); change(0,3,";
      e.edge("11 'what it RUNS AT or more' " + words[kind] + " just there", made + (at[kind] + 1) + "); ", "hours(1) = 1", "of(0,3) = " + at[kind] + "; of(0,4) = 1");
      e.edge("11 'what it RUNS AT or more' " + words[kind] + " one less", made + at[kind] + "); ", "hours(1) = 0", "of(0,3) = " + (at[kind] - 1) + "; of(0,4) = 0");
    }
    e.edge("11 'what it RUNS AT or more' warmed just there", "say[summer 40; deed 0 wax 30]; ", "hours(1) = 1", "of(0,3) = 10; of(0,4) = 1");
    e.edge("11 'what it RUNS AT or more' warmed one less", "say[summer 40; deed 0 wax 31]; ", "hours(1) = 0", "of(0,3) = 9; of(0,4) = 0");
    e.edge("11 'what it RUNS AT or more' RUNS AT 0 SOFT isn't so", "say[summer 0; copy 5]; ", "hours(100) = 0", "of(0,4) = 0");
  }

  private static void drops(Edge e) {
    String drop = "'SOFT of each DEED on the next SHELF beneath that hasn't RUN is 3 more (99 at most' ";
    e.edge("11 " + drop + "a greater number has its turn to come", "say[deed 0; deed 1]; change(0,3,11); ", "hours(1) = 1", "of(1,3) = 2");
    e.edge("11 " + drop + "a lesser number had its turn", "say[deed 1; deed 0]; change(1,3,11); ", "hours(1) = 1", "of(0,3) = 3");
    e.edge("11 " + drop + "98 becomes 99", "say[deed 0; deed 1]; change(0,3,11); change(1,3,98); ", "hours(1) = 2", "of(1,3) = 98");
    e.edge("11 " + drop + "96 becomes just 99", "say[deed 0; deed 1]; change(0,3,11); change(1,3,96); ", "hours(1) = 2", "of(1,3) = 98");
    e.edge("11 " + drop + "95 becomes 98", "say[deed 0; deed 1]; change(0,3,11); change(1,3,95); ", "hours(1) = 2", "of(1,3) = 97");
    e.edge("11 " + drop + "99 stays", "say[deed 0; deed 1]; change(0,3,11); change(1,3,99); ", "hours(1) = 2", "of(1,3) = 98");
    e.edge("11 " + drop + "what has RUN takes none", "say[deed 0; deed 1]; change(1,3,21); hours(1); change(0,3,11); ", "hours(1) = 1", "of(1,3) = 20");
    e.edge("11 " + drop + "none beneath the last SHELF, nor on the topmost", "say[deed 5; deed 5; deed 0]; change(0,3,11); change(1,3,5); change(2,3,5); ", "hours(1) = 1", "of(1,3) = 4; of(2,3) = 4");
    e.edge("11 " + drop + "not on the next but one", "say[deed 0; deed 2]; change(0,3,11); change(1,3,5); ", "hours(1) = 1", "of(1,3) = 4");
    e.edge("11 " + drop + "not on its own SHELF", "say[deed 2; deed 2]; change(0,3,11); change(1,3,5); ", "hours(1) = 1", "of(1,3) = 4");
    e.edge("11 " + drop + "not on the SHELF above", "say[deed 2; deed 1]; change(0,3,11); change(1,3,5); ", "hours(1) = 1", "of(1,3) = 4");
    e.edge("11 " + drop + "two drops on one", "say[deed 0; deed 0; deed 1]; change(0,3,11); change(1,3,11); ", "hours(1) = 2", "of(2,3) = 5");
    e.edge("11 " + drop + "a drop on each of two", "say[deed 0; deed 1; deed 1]; change(0,3,11); ", "hours(1) = 1", "of(1,3) = 2; of(2,3) = 2");
    e.edge("11 " + drop + "onto the last SHELF", "say[deed 4; deed 5]; change(0,3,11); ", "hours(1) = 1", "of(1,3) = 2");
    e.edge("11 'what that does shows in its own turn' a greater number's in this HOUR", "say[deed 0; deed 1]; change(0,3,11); change(1,3,8); ", "hours(1) = 2", "of(1,3) = 10; of(1,4) = 1");
    e.edge("11 'what that does shows in its own turn' a greater number, one less", "say[deed 0; deed 1]; change(0,3,11); change(1,3,7); ", "hours(1) = 1", "of(1,3) = 9; of(1,4) = 0");
    e.edge("11 'what that does shows in its own turn' a lesser number's in the next HOUR", "say[deed 1; deed 0]; change(0,3,9); change(1,3,11); ", "hours(1) = 1", "of(0,3) = 11; of(0,4) = 0; hours(1) = 1; of(0,3) = 10");
    e.edge("11 'what that does shows in its own turn' down all six SHELVES in one HOUR",
        "say[deed 0; deed 1; deed 2; deed 3; deed 4; deed 5]; change(0,3,11); change(1,3,8); change(2,3,8); change(3,3,8); change(4,3,8); change(5,3,8); ",
        "hours(1) = 6", "now(2) = 63");
  }

  private static void ice(Edge e) {
    e.edge("11 'if HEAT was above 20' just 20", "say[summer 30; ice 0 3]; ", "hours(1) = 0", "now(4) = 3");
    e.edge("11 'if HEAT was above 20' 21", "say[summer 31; ice 0 3]; ", "hours(1) = 0", "now(4) = 2");
    e.edge("11 'if HEAT was above 20' 19", "say[summer 29; ice 0 3]; ", "hours(1) = 0", "now(4) = 3");
    e.edge("11 'SHELF's ICE is 1 less (0 at least)' none stays none", "summer(40); ", "hours(1) = 0", "now(4) = 0; shelf(0,1,0) = 0");
    e.edge("11 'SHELF's ICE is 1 less (0 at least)' the last block", "say[summer 40; ice 0 1]; ", "hours(1) = 0", "now(4) = 0; heat(0,0) = 40");
    e.edge("11 'SHELF's ICE is 1 less (0 at least)' more HOURS than blocks", "say[summer 40; ice 0 2]; ", "hours(5) = 0", "now(4) = 0; shelf(0,1,0) = 0");
    e.edge("11 'SHELF's ICE is 1 less (0 at least)' 99 HOURS on", "say[summer 40; ice 0 99]; ", "hours(98) = 0", "now(4) = 1; hours(1) = 0; now(4) = 0");
    e.edge("11 'SHELF's ICE is 1 less (0 at least)' of each warm SHELF", "say[summer 40; ice 0 5; ice 1 5; ice 2 5; ice 5 5]; ", "hours(1) = 0", "shelf(0,1,0) = 4; shelf(1,1,0) = 4; shelf(2,1,0) = 5; shelf(5,1,0) = 5");
    e.edge("11 'each SHELF: HEAT of this HOUR' the last block still cools in its HOUR", "say[summer 40; ice 0 1; deed 0 wax 39]; change(0,3,5); ", "hours(1) = 0", "of(0,3) = 4; hours(1) = 0; of(0,3) = 5");
  }

  private static void now(Edge e) {
    String one = "say[deed 2; ice 3 7]; change(0,3,4); ";
    String same = "now(0) = 0; now(1) = 1; now(2) = 0; now(3) = 4; now(4) = 7; now(5) = 0; now(6) = 15";
    e.edge("12 'BEYOND.' what too small", one, "now(-1) = BEYOND", same);
    e.edge("12 'BEYOND.' what too large", one, "now(7) = BEYOND", same);
    e.edge("12 'BEYOND.' the least int", one, "now(MIN) = BEYOND", same);
    e.edge("12 'BEYOND.' the greatest int", one, "now(MAX) = BEYOND", same);
    e.edge("12 'What 0 HOUR' the least what at the last HOUR", "at[9999]; ", "now(0) = 9999", "now(4) = 0");
    e.edge("12 '6 SUMMER' the greatest what", one, "now(6) = 15", same);
    e.edge("12 'DEEDS whose PEACE HOLDS, as a set' all eight", ALL_ON_0, "now(1) = 255", "now(2) = 0");
    e.edge("12 'DEEDS whose PEACE HOLDS, as a set' none of one that has RUN", "deed(0,0); change(0,3,11); hours(1); ", "now(1) = 0", "now(2) = 1");
    e.edge("12 'those that have RUN, as a set' the eighth alone", ALL_ON_0 + "change(7,3,11); hours(1); ", "now(2) = 128", "now(1) = 127");
    e.edge("12 '3 SOFT of all' of eight, 99 each", ALL_ON_0 + "change(0,3,99); change(1,3,99); change(2,3,99); change(3,3,99); change(4,3,99); change(5,3,99); change(6,3,99); change(7,3,99); ", "now(3) = 792", "now(2) = 0");
    e.edge("12 '3 SOFT of all' of one that has RUN too", "deed(0,0); change(0,3,11); hours(1); ", "now(3) = 10", "now(2) = 1");
    e.edge("12 '4 ICE of all' of six SHELVES, 99 each", "say[ice 0 99; ice 1 99; ice 2 99; ice 3 99; ice 4 99; ice 5 99]; ", "now(4) = 594", "count(4) = 594");
    e.edge("12 '5 the hottest SHELF now' of two as hot the least number", "say[ice 0 1; candle 2 here; candle 3 here; ice 2 1; summer 20]; shelf(1,1,1); shelf(4,2,1); ", "now(5) = 3", "heat(3,0) = 14; heat(2,0) = 10");
    e.edge("12 'of several that would do the least number counts' two as hot", "say[candle 2 here]; ", "now(5) = 0", "heat(0,0) = 15; heat(2,0) = 15");
    e.edge("12 '5 the hottest SHELF now' the last SHELF", "say[ice 0 9; ice 1 9; ice 2 9; ice 3 9; ice 4 9; candle 5 here; shutter 5 open]; at[13]; ", "now(5) = 5", "heat(5,13) = 25; heat(0,13) = 19");
    e.edge("12 '5 the hottest SHELF now' all are below 0", "say[summer 0; ice 0 1]; ", "now(5) = 1", "heat(0,0) = -10; heat(1,0) = -6");
  }

  private static void aheadRefused(Edge e) {
    String two = "say[deed 0; deed 1; ice 0 9]; change(0,3,11); ";
    String same = "now(0) = 0; now(2) = 0; of(0,3) = 11; now(4) = 9; ahead(1, 1) = 1";
    e.edge("13 'AHEAD n HOURS (0 to 100)' below 0", two, "ahead(-1,0) = BEYOND", same);
    e.edge("13 'AHEAD n HOURS (0 to 100)' too many", two, "ahead(101,0) = BEYOND", same);
    e.edge("13 'AHEAD n HOURS (0 to 100)' the least int", two, "ahead(MIN,0) = BEYOND", same);
    e.edge("13 'AHEAD n HOURS (0 to 100)' the greatest int", two, "ahead(MAX,0) = BEYOND", same);
    e.edge("13 'BEYOND: no such DEED, too.' what too small", two, "ahead(1,-1) = BEYOND", same);
    e.edge("13 'BEYOND: no such DEED, too.' the least int for what", two, "ahead(1,MIN) = BEYOND", same);
    e.edge("13 'BEYOND: no such DEED, too.' the first that isn't there", two, "ahead(1,5) = BEYOND", same);
    e.edge("13 'BEYOND: no such DEED, too.' there are no DEEDS", "", "ahead(1,3) = BEYOND", "ahead(1,2) = 0; now(0) = 0");
    e.edge("13 'BEYOND: no such DEED, too.' a ninth", ALL_ON_0, "ahead(1,11) = BEYOND", "ahead(1,10) = 0");
    e.edge("13 'BEYOND: no such DEED, too.' the greatest int for what", two, "ahead(1,MAX) = BEYOND", same);
    e.edge("13 'STATE: HOUR would be above 9999' by 1 of 100", "at[9900]; " + two, "ahead(100,0) = STATE", "now(0) = 9900; of(0,3) = 11; ahead(99,0) = 2");
    e.edge("13 'STATE: HOUR would be above 9999' by 1 of 1", "at[9999]; " + two, "ahead(1,3) = STATE", "of(0,3) = 11; ahead(0,3) = 11");
    e.edge("13 " + ORDER + "BEYOND ahead of STATE, n", "at[9999]; " + two, "ahead(101,0) = BEYOND", "status(4) = 0");
    e.edge("13 " + ORDER + "BEYOND ahead of STATE, no such DEED", "at[9999]; " + two, "ahead(1,5) = BEYOND", "status(4) = 0");
    e.edge("13 " + ORDER + "BEYOND ahead of STATE, what", "at[9999]; " + two, "ahead(1,-1) = BEYOND", "status(4) = 0");
  }

  private static void aheadLimits(Edge e) {
    String two = "say[deed 0; deed 1; ice 0 9]; change(0,3,11); ";
    e.edge("13 'AHEAD n HOURS (0 to 100)' none: as it is", two, "ahead(0,1) = 0", "ahead(0,0) = 3; ahead(0,2) = 9; ahead(0,3) = 11");
    e.edge("13 'AHEAD n HOURS (0 to 100)' the most", two, "ahead(100,1) = 1", "now(0) = 0; now(2) = 0; of(0,3) = 11");
    e.edge("13 'AHEAD n HOURS (0 to 100)' none at the last HOUR", "at[9999]; " + two, "ahead(0,0) = 3", "now(0) = 9999");
    e.edge("13 'STATE: HOUR would be above 9999' just 9999 by 100", "at[9899]; " + two, "ahead(100,0) = 2", "now(0) = 9899; hours(100) = 1");
    e.edge("13 'STATE: HOUR would be above 9999' just 9999 by 1", "at[9998]; " + two, "ahead(1,0) = 2", "now(0) = 9998");
    e.edge("13 '3 + DEED its SOFT' of the first", two, "ahead(1,3) = 10", "of(0,3) = 11");
    e.edge("13 '3 + DEED its SOFT' of the last", two, "ahead(1,4) = 2", "of(1,3) = 0");
    e.edge("13 '3 + DEED its SOFT' of the eighth", ALL_ON_0 + "change(7,3,9); ", "ahead(4,10) = 5", "of(7,3) = 9");
    e.edge("13 'those whose PEACE HOLDS then, as a set' there are no DEEDS", "", "ahead(100,0) = 0", "ahead(100,1) = 0");
    e.edge("13 '2 ICE of all' gone by then", "say[summer 40; ice 0 3]; ", "ahead(3,2) = 0", "ahead(2,2) = 1; now(4) = 3");
  }

  private static void ends(Edge e) {
    String two = "say[deed 0; deed 1 on 0]; change(0,3,12); ";
    e.edge("14 'BEYOND.' there are no DEEDS", "", "ends(0) = BEYOND", "count(1) = 0");
    e.edge("14 'BEYOND.' a DEED too small", two, "ends(-1) = BEYOND", "ends(0) = 1; now(0) = 0");
    e.edge("14 'BEYOND.' a DEED too large", two, "ends(2) = BEYOND", "ends(1) = 1; now(0) = 0");
    e.edge("14 'BEYOND.' a ninth DEED", ALL_ON_0, "ends(8) = BEYOND", "ends(7) = NONE");
    e.edge("14 'BEYOND.' the least int", two, "ends(MIN) = BEYOND", "ends(0) = 1");
    e.edge("14 'BEYOND.' the greatest int", two, "ends(MAX) = BEYOND", "ends(0) = 1");
    e.edge("14 'STATE: HOUR is above 9899' 9900", "at[9900]; " + two, "ends(0) = STATE", "now(0) = 9900; of(0,3) = 12; ahead(1,0) = 0");
    e.edge("14 'STATE: HOUR is above 9899' 9899 isn't", "at[9899]; " + two, "ends(0) = 1", "ends(1) = 1; hours(1) = 1; ends(0) = STATE");
    e.edge("14 'STATE: HOUR is above 9899' the last HOUR", "at[9999]; " + two, "ends(1) = STATE", "of(0,3) = 12");
    e.edge("14 'STATE: HOUR is above 9899' one that has RUN, too", "at[9899]; " + two + "hours(1); ", "ends(0) = STATE", "of(0,4) = 1");
    e.edge("14 'NONE.' it HOLDS on", "deed(0,0); ", "ends(0) = NONE", "now(0) = 0; now(1) = 1");
    e.edge("14 'NONE.' behind 101", "at[9]; " + ICED, "ends(0) = NONE", "hours(1) = 0; ends(0) = 100; now(4) = 98");
    e.edge("14 'Behind how many HOURS (0 to 100)' just behind 100", "at[10]; " + ICED, "ends(0) = 100", "ahead(99,0) = 1; ahead(100,0) = 0; now(4) = 99");
    e.edge("14 'Behind how many HOURS (0 to 100)' 0: it has RUN", "deed(0,0); change(0,3,12); hours(1); ", "ends(0) = 0", "of(0,4) = 1");
    e.edge("14 'Behind how many HOURS (0 to 100)' 0: what it HANGS ON has RUN", two + "hours(1); ", "ends(1) = 0", "of(1,4) = 0");
    e.edge("14 'Behind how many HOURS (0 to 100)' 1: it RUNS in the first", two, "ends(0) = 1", "of(0,4) = 0; of(0,3) = 12");
    e.edge("14 " + ORDER + "BEYOND ahead of STATE", "at[9900]; " + two, "ends(2) = BEYOND", "status(4) = 0");
    e.edge("14 " + ORDER + "STATE ahead of NONE", "at[9900]; deed(0,0); ", "ends(0) = STATE", "status(3) = 0");
  }

  private static void soonest(Edge e) {
    e.edge("15 'NONE.' there are no DEEDS", "", "soonest() = NONE", "count(1) = 0; now(0) = 0");
    e.edge("15 'NONE.' none ends", ALL_ON_0, "soonest() = NONE", "now(1) = 255; now(0) = 0");
    e.edge("15 'NONE.' behind 101", "at[9]; " + ICED, "soonest() = NONE", "hours(1) = 0; soonest() = 0");
    e.edge("15 'The DEED whose PEACE ends first so' just behind 100", "at[10]; " + ICED, "soonest() = 0", "now(0) = 10; now(4) = 99");
    e.edge("15 'The DEED whose PEACE ends first so' one that ended already", "say[deed 0; deed 5; deed 5]; change(1,3,20); change(2,3,11); hours(1); change(2,3,50); ", "soonest() = 1", "now(2) = 6");
    e.edge("15 'of several the least' as soon as another", "say[deed 5; deed 0; deed 0]; change(1,3,20); change(2,3,30); ", "soonest() = 1", "ends(1) = 1; ends(2) = 1; of(1,3) = 20");
    e.edge("15 'of several the least' all eight", ALL_ON_0 + "summer(40); shelf(0,2,1); ", "soonest() = 0", "ends(0) = 1; ends(7) = 1");
    e.edge("15 'of several the least' the greatest ends first", ALL_ON_0 + "change(7,3,11); ", "soonest() = 7", "of(7,4) = 0");
    e.edge("15 'STATE: HOUR is above 9899' 9900", "at[9900]; deed(0,0); change(0,3,12); ", "soonest() = STATE", "now(0) = 9900; of(0,3) = 12");
    e.edge("15 'STATE: HOUR is above 9899' 9899 isn't", "at[9899]; deed(0,0); change(0,3,12); ", "soonest() = 0", "of(0,3) = 12");
    e.edge("15 'STATE: HOUR is above 9899' the last HOUR", "at[9999]; deed(0,0); ", "soonest() = STATE", "now(0) = 9999");
    e.edge("15 " + ORDER + "STATE ahead of NONE", "at[9900]; ", "soonest() = STATE", "status(3) = 0");
  }
}
