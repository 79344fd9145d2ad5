/** The edges of promises 23 to 26, a case for each sentence that names one. */
public final class EnemyEdgesTest {
  private static final String ORDER = "'Each act tells its findings in the order in which they are asked' ";
  private static final String FEW_HOURS = "'h HOURS (1 to 100) AHEAD' ";
  private static final String LATE = "'STATE: HOUR would be above 9999' ";
  private static final String EIGHT = "say[deed 0; deed 0; deed 0; deed 0; deed 0; deed 0; deed 0; deed 0]; ";
  private static final String ALL_OPEN = "shelf(0,0,1); shelf(1,0,1); shelf(2,0,1); shelf(3,0,1); shelf(4,0,1); shelf(5,0,1); ";
  /** Each holds while its own SHUTTER is shut, and RUNS by 24 when it is open; the last never. */
  private static final String FRONTIER =
      "say[summer 30; deed 0 wax 44; deed 1 wax 38; deed 2 wax 32; deed 2 wax 32 on 2; deed 4 wax 20 on 2; deed 5 wax 99]; ";
  private static final String STAYS = "count(3) = 0; now(0) = 0; now(2) = 0; now(1) = 63";

  /** The COPY drops on the DEED when it is softest, and runs it; with SHUTTER 1 open it drops too early for that. */
  private static final String SAVED = "say[summer 30; copy 1 wax 43; deed 2 wax 41; shutter 0 open; shutter 2 open; shutter 4 open; shutter 5 open]; ";

  public static void main(String[] args) {
    Edge edge = new Edge("enemy edges");
    cases(edge);
    edge.end();
  }

  static void cases(Edge e) {
    hours(e, 23, "enemy(1,", 1);
    hours(e, 24, "worst(1,", 5);
    hours(e, 25, "least(0,", -1000004);
    hours(e, 26, "nail(", 0);
    shutters(e, 23, "enemy");
    shutters(e, 24, "worst");
    enemy(e);
    worst(e);
    leastRefused(e);
    leastLimits(e);
    nail(e);
  }

  private static void hours(Edge e, int promise, String act, int due) {
    String p = promise + " ";
    String few = promise == 24 ? "'BEYOND.' HOURS, as of enemy(): " : FEW_HOURS;
    e.edge(p + few + "none", FRONTIER, act + "0) = BEYOND", STAYS);
    e.edge(p + few + "below 0", FRONTIER, act + "-1) = BEYOND", STAYS);
    e.edge(p + few + "too many", FRONTIER, act + "101) = BEYOND", STAYS);
    e.edge(p + few + "the least int", FRONTIER, act + "MIN) = BEYOND", STAYS);
    e.edge(p + few + "the greatest int", FRONTIER, act + "MAX) = BEYOND", STAYS);
    // Each stands whatever is open.
    String five = "say[deed 0 wax 99; deed 0 wax 99; deed 0 wax 99; deed 0 wax 99; deed 5 wax 99]; ";
    String stays = "count(3) = 0; now(1) = 31";
    e.edge(p + few + "the fewest", five, act + "1) = " + due, stays);
    e.edge(p + few + "the most", five, act + "100) = " + due, stays);
    e.edge(p + LATE + "by 1 of 100", "at[9900]; " + five, act + "100) = STATE", "now(0) = 9900; " + stays);
    e.edge(p + LATE + "not by 99", "at[9900]; " + five, act + "99) = " + due, "now(0) = 9900; " + stays);
    e.edge(p + LATE + "by 1 of 1", "at[9999]; " + five, act + "1) = STATE", "now(0) = 9999; " + stays);
    e.edge(p + LATE + "just 9999 by 1", "at[9998]; " + five, act + "1) = " + due, "now(0) = 9998; " + stays);
    e.edge(p + LATE + "just 9999 by 100", "at[9899]; " + five, act + "100) = " + due, "now(0) = 9899; " + stays);
    e.edge(p + ORDER + "BEYOND ahead of STATE, too many HOURS", "at[9999]; " + five, act + "101) = BEYOND", "status(4) = 0; " + stays);
    e.edge(p + ORDER + "BEYOND ahead of STATE, no HOURS", "at[9999]; " + five, act + "0) = BEYOND", "status(4) = 0; " + stays);
    // A DEED that stands whatever is open makes least() NONE, none shut the others.
    e.edge(p + ORDER + "STATE ahead of NONE", "at[9999]; " + five + ALL_OPEN, act + "1) = STATE", "status(3) = 0; count(3) = 63");
    e.edge(p + ORDER + "BEYOND ahead of NONE", five + ALL_OPEN, act + "101) = BEYOND", "status(3) = 0; " + act + "100) = NONE");
  }

  /** What enemy() and worst() refuse alike. */
  private static void shutters(Edge e, int promise, String act) {
    String p = promise + " ";
    String none = promise == 23 ? "'NONE: there are not k shut ones' " : "'NONE.' ";
    e.edge(p + "'BEYOND.' k too small", FRONTIER, act + "(-1,24) = BEYOND", STAYS);
    e.edge(p + "'BEYOND.' k too large", FRONTIER, act + "(7,24) = BEYOND", STAYS);
    e.edge(p + "'BEYOND.' the least int for k", FRONTIER, act + "(MIN,24) = BEYOND", STAYS);
    e.edge(p + "'BEYOND.' the greatest int for k", FRONTIER, act + "(MAX,24) = BEYOND", STAYS);
    e.edge(p + ORDER + "BEYOND ahead of STATE, k", "at[9999]; " + FRONTIER, act + "(7,1) = BEYOND", "status(4) = 0; " + act + "(6,1) = STATE");
    e.edge(p + ORDER + "BEYOND ahead of NONE, k", FRONTIER + ALL_OPEN, act + "(7,1) = BEYOND", "status(3) = 0; " + act + "(6,1) = NONE");
    e.edge(p + none + "but five are shut, of six", FRONTIER + "shelf(3,0,1); ", act + "(6,24) = NONE", "count(3) = 8; now(2) = 0");
    e.edge(p + none + "none is shut, of one", FRONTIER + ALL_OPEN, act + "(1,24) = NONE", "count(3) = 63; now(2) = 0");
    e.edge(p + none + "but one is shut, of two", FRONTIER + ALL_OPEN + "shelf(4,0,0); ", act + "(2,24) = NONE", "count(3) = 47; now(2) = 0");
    e.edge(p + none + "there are no DEEDS either", ALL_OPEN, act + "(1,24) = NONE", "count(3) = 63");
  }

  private static void enemy(Edge e) {
    e.edge("23 'An enemy opens k (0 to 6) of the SHUTTERS' none", FRONTIER, "enemy(0,24) = 0", STAYS);
    e.edge("23 'An enemy opens k (0 to 6) of the SHUTTERS' all six", FRONTIER, "enemy(6,24) = 63", STAYS);
    e.edge("23 'An enemy opens k (0 to 6) of the SHUTTERS' none, there being none shut", FRONTIER + ALL_OPEN, "enemy(0,24) = 0", "count(3) = 63");
    e.edge("23 'An enemy opens k (0 to 6) of the SHUTTERS' the only one shut", FRONTIER + ALL_OPEN + "shelf(5,0,0); ", "enemy(1,24) = 32", "count(3) = 31");
    e.edge("23 'An enemy opens k (0 to 6) of the SHUTTERS' all five shut", FRONTIER + "shelf(3,0,1); ", "enemy(5,24) = 55", "count(3) = 8");
    e.edge("23 'of several the least set' there are no DEEDS", "", "enemy(3,1) = 7", "count(3) = 0");
    e.edge("23 'of several the least set' all HOLD anyhow", FRONTIER, "enemy(2,6) = 3", STAYS);
    e.edge("23 'of several the least set' but of those that are shut", "shelf(0,0,1); shelf(2,0,1); ", "enemy(2,1) = 10", "count(3) = 5");
    e.edge("23 'of several the least set' 0 and 2 do as much as 1 and 2", FRONTIER, "enemy(2,24) = 5", STAYS);
    e.edge("23 'of several the least set' all eight HOLD anyhow, of one", EIGHT, "enemy(1,1) = 1", "count(3) = 0; now(1) = 255");
    e.edge("23 'of several the least set' all eight HOLD anyhow, of three", EIGHT, "enemy(3,1) = 7", "count(3) = 0; now(1) = 255");
    e.edge("23 'of several the least set' but seven of eight HOLD", EIGHT + "change(3,3,50); hours(1); ", "enemy(2,1) = 3", "count(3) = 0; now(1) = 247");
    e.edge("23 'An enemy opens k (0 to 6) of the SHUTTERS' one, though that saves a PEACE", SAVED + "shelf(3,0,1); ", "enemy(1,24) = 2", "count(3) = 61; ahead(24,0) = 0");
    e.edge("23 'with which fewest PEACES HOLD' the last SHUTTER", "say[summer 30; deed 5 wax 14]; ", "enemy(1,24) = 32", "count(3) = 0");
  }

  private static void worst(Edge e) {
    e.edge("24 'How many PEACES HOLD then.' there are no DEEDS", "", "worst(3,1) = 0", "count(3) = 0");
    e.edge("24 'How many PEACES HOLD then.' all eight", EIGHT, "worst(6,1) = 8", "count(3) = 0");
    e.edge("24 'How many PEACES HOLD then.' none opened", FRONTIER, "worst(0,24) = 6", STAYS);
    e.edge("24 'How many PEACES HOLD then.' all opened", FRONTIER, "worst(6,24) = 1", STAYS);
    e.edge("24 'How many PEACES HOLD then.' none, there being none shut", FRONTIER + ALL_OPEN, "worst(0,24) = 1", "count(3) = 63");
    e.edge("24 'How many PEACES HOLD then.' none is left", "say[summer 30; deed 5 wax 14]; ", "worst(1,24) = 0", "count(3) = 0; now(1) = 1");
    e.edge("24 'How many PEACES HOLD then.' more than with none opened", SAVED + "shelf(3,0,1); ", "worst(1,24) = 1", "worst(0,24) = 0; count(3) = 61");
    e.edge("24 'How many PEACES HOLD then.' none that has RUN", EIGHT + "change(3,3,50); hours(1); ", "worst(2,1) = 7", "count(3) = 0");
  }

  private static void leastRefused(Edge e) {
    e.edge("25 'BEYOND.' there are no DEEDS", "", "least(0,1) = BEYOND", "count(1) = 0; count(3) = 0");
    e.edge("25 'BEYOND.' a DEED too small", FRONTIER, "least(-1,24) = BEYOND", STAYS);
    e.edge("25 'BEYOND.' a DEED too large", FRONTIER, "least(6,24) = BEYOND", STAYS);
    e.edge("25 'BEYOND.' a ninth DEED", EIGHT, "least(8,24) = BEYOND", "count(3) = 0; now(1) = 255");
    e.edge("25 'BEYOND.' the least int for a DEED", FRONTIER, "least(MIN,24) = BEYOND", STAYS);
    e.edge("25 'BEYOND.' the greatest int for a DEED", FRONTIER, "least(MAX,24) = BEYOND", STAYS);
    e.edge("25 " + ORDER + "BEYOND ahead of STATE, no such DEED", "at[9999]; deed(0,0); ", "least(1,1) = BEYOND", "status(4) = 0; least(0,1) = STATE");
    e.edge("25 'NONE: not even all do it' it stands the open sun", FRONTIER, "least(5,24) = NONE", STAYS);
    e.edge("25 'NONE: not even all do it' there is no sun by then", FRONTIER, "least(0,6) = NONE", STAYS);
    e.edge("25 'NONE: not even all do it' all are open, and it HOLDS", FRONTIER + ALL_OPEN, "least(5,24) = NONE", "count(3) = 63; least(0,24) = 0");
  }

  private static void leastLimits(Edge e) {
    String down = "say[summer 30; deed 0 wax 52; deed 1 wax 47; deed 2 wax 41; deed 3 wax 35; deed 4 wax 29; deed 5 wax 23]; ";
    e.edge("25 '0: it doesn't anyhow' it has RUN", "deed(0,0); change(0,3,50); hours(1); ", "least(0,1) = 0", "count(3) = 0; of(0,4) = 1");
    e.edge("25 '0: it doesn't anyhow' what it HANGS ON has RUN", "say[deed 0; deed 5 on 0]; change(0,3,50); hours(1); ", "least(1,1) = 0", "of(1,4) = 0");
    e.edge("25 '0: it doesn't anyhow' it will RUN by then", FRONTIER + "change(0,3,50); ", "least(0,1) = 0", "of(0,4) = 0; count(3) = 0");
    e.edge("25 '0: it doesn't anyhow' all are open", FRONTIER + ALL_OPEN, "least(0,24) = 0", "count(3) = 63");
    e.edge("25 'The fewest SHUTTERS that an enemy must open' one", FRONTIER, "least(0,24) = 1", STAYS);
    e.edge("25 'The fewest SHUTTERS that an enemy must open' one, by what it HANGS ON", FRONTIER, "least(4,24) = 1", STAYS);
    e.edge("25 'The fewest SHUTTERS that an enemy must open' all six", down, "least(5,24) = 6", "count(3) = 0; now(1) = 63");
    e.edge("25 'The fewest SHUTTERS that an enemy must open' those that are open don't count", down + "shelf(3,0,1); ", "least(5,24) = 5", "count(3) = 8");
  }

  private static void nail(Edge e) {
    String three = "say[summer 30; deed 1 wax 38; deed 1 wax 38; deed 3 wax 26]; ";
    e.edge("26 'NONE: none is shut' all are open", FRONTIER + ALL_OPEN, "nail(24) = NONE", "count(3) = 63; now(2) = 0");
    e.edge("26 'NONE: none is shut' there are no DEEDS either", ALL_OPEN, "nail(1) = NONE", "count(3) = 63; shelf(2,0,0) = 1; nail(1) = 2");
    e.edge("26 '(none, if there is no other)' the only one shut", FRONTIER + ALL_OPEN + "shelf(4,0,0); ", "nail(24) = 4", "count(3) = 47");
    e.edge("26 '(none, if there is no other)' the only one shut, the last", ALL_OPEN + "shelf(5,0,0); ", "nail(24) = 5", "count(3) = 31");
    e.edge("26 'The SHUTTER, shut, that should be nailed up' there are no DEEDS: the least", "", "nail(1) = 0", "count(3) = 0");
    e.edge("26 'The SHUTTER, shut, that should be nailed up' there are no DEEDS: the least that is shut", "shelf(0,0,1); ", "nail(1) = 1", "count(3) = 1");
    e.edge("26 'The SHUTTER, shut, that should be nailed up' all HOLD anyhow: the least", FRONTIER, "nail(6) = 0", STAYS);
    e.edge("26 'The SHUTTER, shut, that should be nailed up' the last", "say[summer 30; deed 5 wax 14]; ", "nail(24) = 5", "count(3) = 0; now(2) = 0");
    e.edge("26 'most PEACES HOLD at worst' two are more than one", three, "nail(24) = 1", "count(3) = 0; now(1) = 7");
    e.edge("26 'most PEACES HOLD at worst' eight are more than seven", "say[summer 30; deed 2 wax 32; deed 5; deed 5; deed 5; deed 5; deed 5; deed 5; deed 5]; ", "nail(24) = 2", "count(3) = 0; now(1) = 255");
    e.edge("26 'an enemy opening one other that is shut' though that saves a PEACE", SAVED, "nail(24) = 3", "count(3) = 53; ahead(24,0) = 0");
    e.edge("26 'most PEACES HOLD at worst' the enemy may open the topmost", "say[summer 30; deed 0 wax 44; deed 0 wax 44; deed 3 wax 26]; ", "nail(24) = 0", "count(3) = 0; now(1) = 7");
    e.edge("26 'most PEACES HOLD at worst' the enemy may open the last", "say[summer 30; deed 0 wax 44; deed 5 wax 14; deed 5 wax 14]; ", "nail(24) = 5", "count(3) = 0; now(1) = 7");
    e.edge("26 'most PEACES HOLD at worst' one that is open can't be nailed up", three + "shelf(1,0,1); ", "nail(24) = 3", "count(3) = 2");
  }
}
