/** The edges of promises 27 to 34, a case for each sentence that names one. */
public final class HangEdgesTest {
  private static final String ORDER = "'Each act tells its findings in the order in which they are asked' ";
  private static final String EIGHT = "say[deed 0; deed 0; deed 0; deed 0; deed 0; deed 0; deed 0; deed 0]; ";
  private static final String CHAIN =
      "say[deed 0; deed 0 on 0; deed 0 on 1; deed 0 on 2; deed 0 on 3; deed 0 on 4; deed 0 on 5; deed 0 on 6]; ";
  private static final String ALL_RUN =
      "change(0,3,99); change(1,3,99); change(2,3,99); change(3,3,99); change(4,3,99); change(5,3,99); change(6,3,99); change(7,3,99); hours(1); ";

  public static void main(String[] args) {
    Edge edge = new Edge("hang edges");
    cases(edge);
    edge.end();
  }

  static void cases(Edge e) {
    deeds(e, 27, "hang");
    deeds(e, 28, "falls");
    hang(e);
    falls(e);
    war(e);
    key(e);
    began(e);
    openedRefused(e);
    openedLimits(e);
    daysRefused(e);
    daysLimits(e);
    seed(e);
  }

  private static void deeds(Edge e, int promise, String act) {
    String p = promise + " ";
    String stays = "count(1) = 8; now(1) = 255; of(7,5) = 6; hang(0) = 254";
    e.edge(p + "'BEYOND.' there are no DEEDS", "", act + "(0) = BEYOND", "count(1) = 0");
    e.edge(p + "'BEYOND.' a DEED too small", CHAIN, act + "(-1) = BEYOND", stays);
    e.edge(p + "'BEYOND.' a DEED too large", "deed(0,0); ", act + "(1) = BEYOND", "count(1) = 1; now(1) = 1");
    e.edge(p + "'BEYOND.' a ninth DEED", CHAIN, act + "(8) = BEYOND", stays);
    e.edge(p + "'BEYOND.' the least int", CHAIN, act + "(MIN) = BEYOND", stays);
    e.edge(p + "'BEYOND.' the greatest int", CHAIN, act + "(MAX) = BEYOND", stays);
  }

  private static void hang(Edge e) {
    e.edge("27 'DEEDS that HANG ON one, by steps, as a set' none: the only DEED", "deed(0,0); ", "hang(0) = 0", "count(1) = 1");
    e.edge("27 'DEEDS that HANG ON one, by steps, as a set' none: the end of a chain", CHAIN, "hang(7) = 0", "of(7,5) = 6");
    e.edge("27 'DEEDS that HANG ON one, by steps, as a set' seven steps", CHAIN, "hang(0) = 254", "of(7,5) = 6");
    e.edge("27 'DEEDS that HANG ON one, by steps, as a set' one step", CHAIN, "hang(6) = 128", "of(7,5) = 6");
    e.edge("27 'DEEDS that HANG ON one, by steps, as a set' seven at one step", "say[deed 0; deed 0 on 0; deed 0 on 0; deed 0 on 0; deed 0 on 0; deed 0 on 0; deed 0 on 0; deed 0 on 0]; ", "hang(0) = 254", "hang(1) = 0");
    e.edge("27 'DEEDS that HANG ON one, by steps, as a set' those that have RUN too", CHAIN + ALL_RUN, "hang(0) = 254", "now(2) = 255");
    e.edge("27 'DEEDS that HANG ON one, by steps, as a set' none any more", CHAIN + "change(1,5,-1); ", "hang(0) = 0", "hang(1) = 252");
  }

  private static void falls(Edge e) {
    e.edge("28 'PEACES that HOLD now and wouldn't' all eight", CHAIN, "falls(0) = 255", "now(2) = 0; now(1) = 255");
    e.edge("28 'PEACES that HOLD now and wouldn't' its own alone", CHAIN, "falls(7) = 128", "now(2) = 0");
    e.edge("28 'PEACES that HOLD now and wouldn't' none: it has RUN", CHAIN + "change(0,3,99); hours(1); ", "falls(0) = 0", "now(2) = 1; now(1) = 0");
    e.edge("28 'PEACES that HOLD now and wouldn't' none: what it HANGS ON has RUN", CHAIN + "change(0,3,99); hours(1); ", "falls(7) = 0", "of(7,4) = 0");
    e.edge("28 'PEACES that HOLD now and wouldn't' not those that don't HOLD now", CHAIN + "change(3,3,99); hours(1); ", "falls(0) = 7", "now(1) = 7; falls(3) = 0");
  }

  private static void war(Edge e) {
    e.edge("29 '(0: none does)' there are no DEEDS", "", "war() = 0", "count(1) = 0");
    e.edge("29 '(0: none does)' all have RUN", EIGHT + ALL_RUN, "war() = 0", "now(2) = 255");
    e.edge("29 '(0: none does)' what all HANG ON has RUN", CHAIN + "change(0,3,99); hours(1); ", "war() = 0", "now(2) = 1; now(1) = 0");
    e.edge("29 'The fewest DEEDS that must RUN now so that no PEACE HOLDS' all eight", EIGHT, "war() = 8", "now(2) = 0; now(1) = 255");
    e.edge("29 'The fewest DEEDS that must RUN now so that no PEACE HOLDS' one for all eight", CHAIN, "war() = 1", "now(2) = 0");
    e.edge("29 'The fewest DEEDS that must RUN now so that no PEACE HOLDS' those ahead of one that has RUN", CHAIN + "change(3,3,99); hours(1); ", "war() = 1", "now(1) = 7");
  }

  private static void key(Edge e) {
    e.edge("30 'NONE: there are no DEEDS' of a new object", "", "key() = NONE", "count(1) = 0; deed(0,0) = 0; key() = 0");
    e.edge("30 'NONE: there are no DEEDS' undone", "image(); deed(0,0); undo(); ", "key() = NONE", "count(1) = 0");
    e.edge("30 'The DEED with which most PEACES would fall' the only one", "deed(0,0); ", "key() = 0", "now(2) = 0");
    e.edge("30 'The DEED with which most PEACES would fall' none falls any more: the least", EIGHT + ALL_RUN, "key() = 0", "now(2) = 255");
    e.edge("30 'The DEED with which most PEACES would fall' as many with each: the least", EIGHT, "key() = 0", "now(1) = 255");
    e.edge("30 'The DEED with which most PEACES would fall' the eighth, as all others have RUN",
        EIGHT + "change(0,3,99); change(1,3,99); change(2,3,99); change(3,3,99); change(4,3,99); change(5,3,99); change(6,3,99); hours(1); ", "key() = 7", "now(1) = 128");
    e.edge("30 'The DEED with which most PEACES would fall' two are more than one", "say[deed 0; deed 0; deed 0 on 1]; ", "key() = 1", "falls(0) = 1; falls(1) = 6");
  }

  private static void began(Edge e) {
    int all = (1 << 25) - 2;
    e.edge("31 'STATE: HOUR is below 24' at first", "deed(0,0); change(0,3,5); ", "began() = STATE", "now(0) = 0; of(0,3) = 5");
    e.edge("31 'STATE: HOUR is below 24' 23", "at[23]; deed(0,0); change(0,3,5); ", "began() = STATE", "now(0) = 23; of(0,3) = 5; hours(1) = 0; began() = " + all);
    e.edge("31 'STATE: HOUR is below 24' 24 isn't", "at[24]; deed(0,0); change(0,3,5); ", "began() = " + all, "now(0) = 24; of(0,3) = 5");
    e.edge("31 'STATE: HOUR is below 24' the last HOUR isn't", "at[9999]; deed(0,0); ", "began() = " + all, "now(0) = 9999");
    e.edge("31 'HOURS h (1 to 24)' there are no DEEDS: all 24", "at[24]; ", "began() = " + all, "now(0) = 24");
    e.edge("31 'HOURS h (1 to 24)' none: it would have RUN in none", "at[24]; deed(0,0); change(0,3,99); hours(1); ", "began() = 0", "now(2) = 1; now(0) = 25");
    // 24 hours ago it was noon: 10 over. From an hour later on but 6 and 2, and then, by 12, 2 and 6.
    String noon = "say[summer 30; shutter 0 open; deed 0 wax 48]; ";
    e.edge("31 'HOURS h (1 to 24)' just 24", "at[36]; " + noon + "change(0,3,50); hours(1); ", "began() = " + (1 << 24), "now(0) = 37; now(2) = 1; of(0,3) = 56");
    e.edge("31 'HOURS h (1 to 24)' all but 24", "at[37]; " + noon, "began() = " + ((1 << 24) - 2), "now(0) = 37; now(2) = 0");
    // By night it is 6 over in each hour.
    e.edge("31 'HOURS h (1 to 24)' just 1", "at[24]; say[summer 40; deed 0 wax 34]; ", "began() = 2", "now(0) = 24; now(2) = 0");
    e.edge("31 'HOURS h (1 to 24)' eight DEEDS", "at[24]; " + EIGHT, "began() = " + all, "now(0) = 24; now(1) = 255");
    e.edge("31 'all SOFT been 0 and none RUN' 9 in an HOUR aren't 10", "at[24]; summer(40); deed(0,0); change(0,2,31); change(0,3,5); ", "began() = 2", "now(0) = 24; of(0,3) = 5");
    e.edge("31 'all SOFT been 0 and none RUN' 10 in an HOUR are", "at[24]; summer(40); deed(0,0); change(0,2,30); change(0,3,5); ", "began() = 0", "now(0) = 24; of(0,3) = 5");
    // Iced it doesn't soften; that is for two HOURS, whenever it began. Then it takes two more.
    e.edge("31 'all else as it is now' the ICE of now", "at[24]; summer(40); deed(0,0); change(0,2,34); shelf(0,1,2); ", "began() = 14", "now(0) = 24; now(4) = 2");
    e.edge("31 'HOURS h (1 to 24)' all but 1", "at[24]; say[summer 40; deed 0 wax 34]; change(0,3,50); hours(1); ", "began() = " + (all - 2), "now(0) = 25; now(2) = 1");
  }

  private static void openedRefused(Edge e) {
    String two = "say[deed 0; deed 1; shutter 3 open]; ";
    String stays = "count(3) = 8; now(0) = 0; now(2) = 0";
    e.edge("32 'BEYOND: bits of none, too' there are no DEEDS", "", "opened(1,1) = BEYOND", "count(3) = 0; opened(0,1) = 64");
    e.edge("32 'BEYOND: bits of none, too' the first that isn't there", two, "opened(4,1) = BEYOND", stays);
    e.edge("32 'BEYOND: bits of none, too' besides those that are there", two, "opened(7,1) = BEYOND", stays);
    e.edge("32 'BEYOND: bits of none, too' a ninth", EIGHT, "opened(256,1) = BEYOND", "count(3) = 0; opened(255,1) = 0");
    e.edge("32 'BEYOND: bits of none, too' below 0", two, "opened(-1,1) = BEYOND", stays);
    e.edge("32 'BEYOND: bits of none, too' the least int", two, "opened(MIN,1) = BEYOND", stays);
    e.edge("32 'BEYOND: bits of none, too' the greatest int", two, "opened(MAX,1) = BEYOND", stays);
    e.edge("32 'h HOURS (1 to 24) AHEAD' none", two, "opened(0,0) = BEYOND", stays);
    e.edge("32 'h HOURS (1 to 24) AHEAD' below 0", two, "opened(0,-1) = BEYOND", stays);
    e.edge("32 'h HOURS (1 to 24) AHEAD' too many", two, "opened(0,25) = BEYOND", stays);
    e.edge("32 'h HOURS (1 to 24) AHEAD' the least int", two, "opened(0,MIN) = BEYOND", stays);
    e.edge("32 'h HOURS (1 to 24) AHEAD' the greatest int", two, "opened(0,MAX) = BEYOND", stays);
    e.edge("32 'STATE: HOUR would be above 9999' by 1 of 24", "at[9976]; " + two, "opened(0,24) = STATE", "now(0) = 9976; count(3) = 8; opened(0,23) = 64");
    e.edge("32 'STATE: HOUR would be above 9999' by 1 of 1", "at[9999]; " + two, "opened(0,1) = STATE", "now(0) = 9999; count(3) = 8");
    e.edge("32 " + ORDER + "BEYOND ahead of STATE, bits", "at[9999]; " + two, "opened(4,1) = BEYOND", "status(4) = 0; opened(3,1) = STATE");
    e.edge("32 " + ORDER + "BEYOND ahead of STATE, HOURS", "at[9999]; " + two, "opened(0,25) = BEYOND", "status(4) = 0");
  }

  private static void openedLimits(Edge e) {
    String sunny = "say[summer 30; deed 0 wax 44; deed 1 wax 38]; ";
    e.edge("32 'In how many ways all six SHUTTERS can be open or shut now' all 64: there are no DEEDS", "", "opened(0,24) = 64", "count(3) = 0");
    e.edge("32 'In how many ways all six SHUTTERS can be open or shut now' none", sunny, "opened(3,6) = 0", "count(3) = 0; opened(0,6) = 64");
    e.edge("32 'In how many ways all six SHUTTERS can be open or shut now' those that are open can be shut", sunny + "shelf(0,0,1); shelf(1,0,1); ", "opened(0,24) = 16", "count(3) = 3; opened(3,24) = 16");
    e.edge("32 'just a set of DEEDS has RUN' the empty set", sunny, "opened(0,24) = 16", "count(3) = 0; now(2) = 0");
    e.edge("32 'just a set of DEEDS has RUN' all eight", EIGHT + ALL_RUN, "opened(255,1) = 64", "now(0) = 1");
    e.edge("32 'h HOURS (1 to 24) AHEAD' the fewest", "deed(0,0); change(0,3,11); ", "opened(1,1) = 64", "now(2) = 0; now(0) = 0");
    e.edge("32 'STATE: HOUR would be above 9999' just 9999 by 24", "at[9975]; " + sunny, "opened(0,24) = 16", "now(0) = 9975");
    e.edge("32 'STATE: HOUR would be above 9999' just 9999 by 1", "at[9998]; deed(0,5); ", "opened(0,1) = 64", "now(0) = 9998");
  }

  private static void daysRefused(Edge e) {
    String one = "say[summer 22; shutter 4 open; deed 0]; change(0,3,5); seed(77); ";
    String stays = "now(0) = 0; count(2) = 22; count(3) = 16; of(0,3) = 5; count(6) = 77";
    e.edge("33 'n days (1 to 12) by draws' none", one, "days(0) = BEYOND", stays);
    e.edge("33 'n days (1 to 12) by draws' below 0", one, "days(-1) = BEYOND", stays);
    e.edge("33 'n days (1 to 12) by draws' too many", one, "days(13) = BEYOND", stays);
    e.edge("33 'n days (1 to 12) by draws' the least int", one, "days(MIN) = BEYOND", stays);
    e.edge("33 'n days (1 to 12) by draws' the greatest int", one, "days(MAX) = BEYOND", stays);
    e.edge("33 'n days (1 to 12) by draws' so many that 24 times wraps around to 24", one, "days(536870913) = BEYOND", stays);
    String late = "count(2) = 22; count(3) = 16; of(0,3) = 5; count(6) = 77";
    e.edge("33 'STATE: HOUR would be above 9999' by 1 of a day", "at[9976]; " + one, "days(1) = STATE", "now(0) = 9976; " + late);
    e.edge("33 'STATE: HOUR would be above 9999' the first of two would fit", "at[9975]; " + one, "days(2) = STATE", "now(0) = 9975; " + late);
    e.edge("33 'STATE: HOUR would be above 9999' by 1 of twelve days", "at[9712]; " + one, "days(12) = STATE", "now(0) = 9712; " + late);
    e.edge("33 'STATE: HOUR would be above 9999' the last HOUR", "at[9999]; " + one, "days(1) = STATE", "now(0) = 9999; " + late);
    e.edge("33 " + ORDER + "BEYOND ahead of STATE, too many days", "at[9999]; " + one, "days(13) = BEYOND", "status(4) = 0; " + late);
    e.edge("33 " + ORDER + "BEYOND ahead of STATE, no days", "at[9999]; " + one, "days(0) = BEYOND", "status(4) = 0; " + late);
  }

  private static void daysLimits(Edge e) {
    e.edge("33 'n days (1 to 12) by draws' the fewest", "", "days(1) = 0", "now(0) = 24");
    e.edge("33 'n days (1 to 12) by draws' the most", "", "days(12) = 0", "now(0) = 288");
    e.edge("33 'STATE: HOUR would be above 9999' just 9999 by a day", "at[9975]; ", "days(1) = 0", "now(0) = 9999; days(1) = STATE");
    e.edge("33 'STATE: HOUR would be above 9999' just 9999 by twelve days", "at[9711]; ", "days(12) = 0", "now(0) = 9999");
    e.edge("33 'how many SEALS RUN in them' those of each day", "deed(0,5); deed(0,5); change(0,3,11); ", "days(1) = 1", "now(2) = 1; change(1,3,50) = 0; days(1) = 1");
    e.edge("33 'how many SEALS RUN in them' of two days, in the first", "deed(0,5); change(0,3,11); ", "days(2) = 1", "now(2) = 1; now(0) = 48");
    e.edge("33 'how many SEALS RUN in them' all eight", EIGHT + ALL_RUN.replace("hours(1); ", ""), "days(1) = 8", "now(2) = 255; now(0) = 24");
    e.edge("33 'SUMMER is the rest of a draw by 41' the greatest rest", "seed(7); ", "days(1) = 0", "count(2) = 40; count(3) = 8; count(6) = 642666333");
    e.edge("33 'SUMMER is the rest of a draw by 41' no rest", "seed(46); ", "days(1) = 0", "count(2) = 0; count(3) = 32; count(6) = -854338212");
    e.edge("33 'the SHUTTER that is the rest of the next one by 6 is the other way' no rest", "seed(-1); ", "days(1) = 0", "count(2) = 33; count(3) = 1; count(6) = 288979989");
    e.edge("33 'the SHUTTER that is the rest of the next one by 6 is the other way' the greatest rest, shut", "seed(46); shelf(5,0,1); shelf(0,0,1); ", "days(1) = 0", "count(3) = 1");
    e.edge("33 'makes it z * 1103515245 + 12345 (an int), and gives z >>> 8' both wrap around to below 0", "seed(18); ", "days(1) = 0", "count(2) = 39; count(3) = 32; count(6) = -2092240416");
    e.edge("33 'makes it z * 1103515245 + 12345 (an int), and gives z >>> 8' of the greatest int", "seed(MAX); ", "days(1) = 0", "count(2) = 25; count(3) = 4; count(6) = -1858503659");
    e.edge("33 'makes it z * 1103515245 + 12345 (an int), and gives z >>> 8' of the least int", "seed(MIN); ", "days(1) = 0", "count(2) = 15; count(3) = 16; count(6) = 1406932606");
    e.edge("33 'makes it z * 1103515245 + 12345 (an int), and gives z >>> 8' of 0", "seed(0); ", "days(1) = 0", "count(2) = 7");
  }

  private static void seed(Edge e) {
    e.edge("34 'z becomes v: what it was' at first", "", "seed(5) = 1", "count(6) = 5");
    e.edge("34 'z becomes v: what it was' the least int", "", "seed(MIN) = 1", "count(6) = MIN; seed(0) = MIN; status(-1) = 0");
    e.edge("34 'z becomes v: what it was' the greatest int", "", "seed(MAX) = 1", "count(6) = MAX; seed(0) = MAX; status(-1) = 0");
    e.edge("34 'z, may be any int: that is no finding' BEYOND as z", "seed(-1000001); ", "seed(0) = -1000001", "status(-1) = 0; status(0) = 0; count(6) = 0");
    e.edge("34 'z, may be any int: that is no finding' SIZE as z", "seed(-1000007); ", "seed(0) = -1000007", "status(-1) = 0; status(6) = 0; count(6) = 0");
    e.edge("34 'z, may be any int: that is no finding' told by count(6)", "seed(-1000004); ", "count(6) = -1000004", "status(-1) = 0; status(3) = 0");
  }
}
