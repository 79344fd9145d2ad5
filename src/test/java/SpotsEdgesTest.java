/** The edges of promises 38 to 44, a case for each sentence that names one. */
public final class SpotsEdgesTest {
  private static final String ORDER = "'Each act tells its findings in the order in which they are asked' ";
  private static final String EIGHT = "say[deed 0; deed 0; deed 0; deed 0; deed 0; deed 0; deed 0; deed 0]; ";
  private static final String KINDS = "say[deed 0; double 0; tallow 0; copy 0; stacked 0; buried 0; false 0]; ";
  private static final String THREE = "sheet(1,8,3); write(1,0,11); write(1,1,12); write(1,2,13); ";

  public static void main(String[] args) {
    Edge edge = new Edge("spots edges");
    cases(edge);
    edge.end();
  }

  static void cases(Edge e) {
    hold(e);
    as(e);
    asKinds(e);
    sheetRefused(e);
    sheetLimits(e);
    writeRefused(e);
    writeLimits(e);
    copyRefused(e);
    copyOrder(e);
    copyLimits(e);
    load(e);
    loadEnds(e);
    judgeRefused(e);
    judgeLimits(e);
  }

  private static void hold(Edge e) {
    String some = "say[deed 0; double 0]; hold(3,1); ";
    String stays = "count(7) = 1; as(3,0) = 1; hold(4,0) = 1; count(7) = 2";
    e.edge("38 'BEYOND.' a SPOT too small", some, "hold(-1,0) = BEYOND", stays);
    e.edge("38 'BEYOND.' a SPOT too large", some, "hold(10,0) = BEYOND", stays);
    e.edge("38 'BEYOND.' the least int for a SPOT", some, "hold(MIN,0) = BEYOND", stays);
    e.edge("38 'BEYOND.' the greatest int for a SPOT", some, "hold(MAX,0) = BEYOND", stays);
    e.edge("38 'BEYOND.' a DEED too small, below -1", some, "hold(3,-2) = BEYOND", stays);
    e.edge("38 'BEYOND.' a DEED too large", some, "hold(3,2) = BEYOND", stays);
    e.edge("38 'BEYOND.' a ninth DEED", EIGHT, "hold(3,8) = BEYOND", "count(7) = 0; hold(3,7) = 1; as(3,0) = 7");
    e.edge("38 'BEYOND.' the least int for a DEED", some, "hold(3,MIN) = BEYOND", stays);
    e.edge("38 'BEYOND.' the greatest int for a DEED", some, "hold(3,MAX) = BEYOND", stays);
    e.edge("38 'BEYOND.' there are no DEEDS", "", "hold(0,0) = BEYOND", "count(7) = 0; as(0,0) = MISSING");
    e.edge("38 'BEYOND.' nothing, but no such SPOT", some, "hold(10,-1) = BEYOND", stays);
    e.edge("38 'SPOTS 0 to 9' the first", some, "hold(0,0) = 1", "as(0,0) = 0; count(7) = 2");
    e.edge("38 'SPOTS 0 to 9' the last", some, "hold(9,0) = 1", "as(9,0) = 0; count(7) = 2");
    e.edge("38 'A SPOT holds a DEED, or nothing (-1)' nothing", some, "hold(3,-1) = 1", "as(3,0) = MISSING; count(7) = 0");
    e.edge("38 'A SPOT holds a DEED, or nothing (-1)' nothing as it is", some, "hold(4,-1) = 1", "as(4,0) = MISSING; count(7) = 1");
    e.edge("38 'A SPOT holds a DEED, or nothing (-1)' nothing, there being no DEEDS", "", "hold(0,-1) = 1", "count(7) = 0");
    e.edge("38 'A SPOT holds a DEED, or nothing (-1)' another than before", some, "hold(3,0) = 1", "as(3,0) = 0; count(7) = 1");
    e.edge("38 'A SPOT holds a DEED, or nothing (-1)' all ten the same",
        some + "hold(0,1); hold(1,1); hold(2,1); hold(4,1); hold(5,1); hold(6,1); hold(7,1); hold(8,1); ", "hold(9,1) = 1", "count(7) = 10; as(0,0) = 1; as(9,0) = 1");
  }

  private static void as(Edge e) {
    String some = "say[deed 0; double 0]; hold(3,1); ";
    String stays = "count(7) = 1; as(3,0) = 1; as(3,1) = 1";
    e.edge("39 'BEYOND.' a SPOT too small", some, "as(-1,0) = BEYOND", stays);
    e.edge("39 'BEYOND.' a SPOT too large", some, "as(10,0) = BEYOND", stays);
    e.edge("39 'BEYOND.' the least int for a SPOT", some, "as(MIN,0) = BEYOND", stays);
    e.edge("39 'BEYOND.' the greatest int for a SPOT", some, "as(MAX,0) = BEYOND", stays);
    e.edge("39 'BEYOND.' a kind too small", some, "as(3,-1) = BEYOND", stays);
    e.edge("39 'BEYOND.' a kind too large", some, "as(3,7) = BEYOND", stays);
    e.edge("39 'BEYOND.' the least int for a kind", some, "as(3,MIN) = BEYOND", stays);
    e.edge("39 'BEYOND.' the greatest int for a kind", some, "as(3,MAX) = BEYOND", stays);
    e.edge("39 'MISSING: it holds nothing' at first", some, "as(0,0) = MISSING", stays);
    e.edge("39 'MISSING: it holds nothing' any more", some + "hold(3,-1); ", "as(3,1) = MISSING", "count(7) = 0; hold(3,1) = 1; as(3,1) = 1");
    e.edge("39 'MISSING: it holds nothing' the last SPOT as the last kind", some, "as(9,6) = MISSING", stays);
    e.edge("39 'MISSING: it holds nothing' undone", "deed(0,0); image(); hold(3,0); undo(); ", "as(3,0) = MISSING", "count(7) = 0");
    e.edge("39 " + ORDER + "BEYOND ahead of MISSING", some, "as(0,7) = BEYOND", "status(5) = 0; as(0,6) = MISSING");
    e.edge("39 " + ORDER + "BEYOND ahead of KIND", some, "as(3,-1) = BEYOND", "status(2) = 0; as(3,2) = KIND");
    e.edge("39 'the number of the DEED' the first DEED as the first kind", KINDS + "hold(0,0); ", "as(0,0) = 0", "status(-1) = 0");
    e.edge("39 'the number of the DEED' the eighth", EIGHT + "hold(9,7); ", "as(9,0) = 7", "status(-1) = 0");
  }

  private static void asKinds(Edge e) {
    // Which kinds (as bits) each is one of: its own, and all above it.
    int[] isOneOf = {1, 2 + 1, 4 + 1, 8 + 4 + 1, 16 + 2 + 1, 32 + 1, 64 + 32 + 1};
    String[] words = {"DEED", "DOUBLE", "TALLOW", "COPY", "STACKED", "BURIED", "FALSE"};
    for (int kind = 0; kind < 7; kind++) {
      String held = KINDS + "hold(3," + kind + "); ";
      for (int other = 0; other < 7; other++) {
        boolean is = (isOneOf[kind] >> other & 1) == 1;
        e.edge("39 'KIND: it isn't of that kind, nor of one under it' " + words[kind] + " as " + words[other], held,
            "as(3," + other + ") = " + (is ? "" + kind : "KIND"), "count(7) = 1; of(" + kind + ",0) = " + kind + "; as(3,0) = " + kind);
      }
    }
    e.edge("39 'KIND: it isn't of that kind, nor of one under it' it was, ahead of change()", KINDS + "hold(3,3); change(3,0,1); ", "as(3,2) = KIND", "as(3,1) = 3");
  }

  private static void sheetRefused(Edge e) {
    String stays = "load(1) = 3; of(0,2) = 11; of(2,2) = 13; write(1,2,9) = 1; write(1,3,9) = BEYOND";
    String some = EIGHT + THREE;
    e.edge("40 'BEYOND: no such sheet, other bits' a sheet too small", some, "sheet(-1,8,2) = BEYOND", stays);
    e.edge("40 'BEYOND: no such sheet, other bits' a sheet too large", some, "sheet(4,8,2) = BEYOND", stays);
    e.edge("40 'BEYOND: no such sheet, other bits' the least int for a sheet", some, "sheet(MIN,8,2) = BEYOND", stays);
    e.edge("40 'BEYOND: no such sheet, other bits' the greatest int for a sheet", some, "sheet(MAX,8,2) = BEYOND", stays);
    for (String bits : new String[] {"-8", "-1", "1", "4", "7", "9", "15", "17", "24", "31", "33", "64", "MIN", "MAX"}) {
      e.edge("40 'BEYOND: no such sheet, other bits' bits " + bits, some, "sheet(1," + bits + ",2) = BEYOND", stays);
    }
    e.edge("40 'SIZE: n is below 0 (also with bits 0)' with bits 8", some, "sheet(1,8,-1) = SIZE", stays);
    e.edge("40 'SIZE: n is below 0 (also with bits 0)' with bits 16", some, "sheet(1,16,-1) = SIZE", stays);
    e.edge("40 'SIZE: n is below 0 (also with bits 0)' with bits 32", some, "sheet(1,32,-1) = SIZE", stays);
    e.edge("40 'SIZE: n is below 0 (also with bits 0)' with bits 0", some, "sheet(1,0,-1) = SIZE", stays);
    e.edge("40 'SIZE: n is below 0 (also with bits 0)' the least int", some, "sheet(1,8,MIN) = SIZE", stays);
    e.edge("40 'SIZE: n is below 0 (also with bits 0)' the least int, with bits 0", some, "sheet(1,0,MIN) = SIZE", stays);
    e.edge("40 'BEYOND: n is above 40 (also with bits 0)' with bits 8", some, "sheet(1,8,41) = BEYOND", stays);
    e.edge("40 'BEYOND: n is above 40 (also with bits 0)' with bits 16", some, "sheet(1,16,41) = BEYOND", stays);
    e.edge("40 'BEYOND: n is above 40 (also with bits 0)' with bits 32", some, "sheet(1,32,41) = BEYOND", stays);
    e.edge("40 'BEYOND: n is above 40 (also with bits 0)' with bits 0", some, "sheet(1,0,41) = BEYOND", stays);
    e.edge("40 'BEYOND: n is above 40 (also with bits 0)' the greatest int", some, "sheet(1,8,MAX) = BEYOND", stays);
    e.edge("40 'BEYOND: n is above 40 (also with bits 0)' the greatest int, with bits 0", some, "sheet(1,0,MAX) = BEYOND", stays);
    e.edge("40 " + ORDER + "BEYOND ahead of SIZE, sheet", some, "sheet(4,8,-1) = BEYOND", "status(6) = 0; " + stays);
    e.edge("40 " + ORDER + "BEYOND ahead of SIZE, bits", some, "sheet(1,7,-1) = BEYOND", "status(6) = 0; " + stays);
    e.edge("40 'it is MISSING' one refused doesn't come to be", "", "sheet(0,8,41) = BEYOND", "load(0) = MISSING; write(0,0,0) = MISSING");
    e.edge("40 'it is MISSING' one refused for its SIZE doesn't, either", "", "sheet(0,8,-1) = SIZE", "load(0) = MISSING; write(0,0,0) = MISSING");
  }

  private static void sheetLimits(Edge e) {
    e.edge("40 'rows of at most 40 numbers' just 40", EIGHT, "sheet(0,8,40) = 40", "write(0,39,1) = 1; write(0,40,1) = BEYOND");
    e.edge("40 'rows of at most 40 numbers' none", EIGHT, "sheet(0,8,0) = 0", "write(0,0,1) = BEYOND; load(0) = 0");
    e.edge("40 'rows of at most 40 numbers' one", EIGHT, "sheet(0,32,1) = 1", "write(0,0,1) = 1; write(0,1,1) = BEYOND");
    e.edge("40 'SHEETS 0 to 3' the last", EIGHT, "sheet(3,16,2) = 2", "write(3,1,1) = 1; load(0) = MISSING");
    e.edge("40 'n (0 if it is MISSING)' with bits 0 and 0 numbers", THREE, "sheet(1,0,0) = 0", "load(1) = MISSING");
    e.edge("40 'n (0 if it is MISSING)' with bits 0 and 40 numbers", THREE, "sheet(1,0,40) = 0", "load(1) = MISSING; write(1,0,1) = MISSING");
    e.edge("40 'n (0 if it is MISSING)' MISSING as it is", "", "sheet(1,0,1) = 0", "load(1) = MISSING");
    e.edge("40 'A sheet has n numbers, all 0' as many, anew", EIGHT + THREE, "sheet(1,8,3) = 3", "load(1) = 0; write(1,0,5) = 1; load(1) = 1");
    e.edge("40 'A sheet has n numbers, all 0' fewer, and more again", EIGHT + THREE + "sheet(1,8,1); ", "sheet(1,8,3) = 3", "write(1,0,5) = 1; load(1) = 1; write(1,1,6) = 1; load(1) = 2");
    e.edge("40 'A sheet has n numbers, all 0' MISSING in between", EIGHT + THREE + "sheet(1,0,3); ", "sheet(1,8,3) = 3", "load(1) = 0; write(1,0,5) = 1; load(1) = 1");
    e.edge("40 'A sheet has n numbers, all 0' of other bits", EIGHT + THREE, "sheet(1,16,3) = 3", "load(1) = 0; write(1,0,5) = 1; load(1) = 1");
  }

  private static void writeRefused(Edge e) {
    String some = EIGHT + THREE;
    String stays = "load(1) = 3; of(0,2) = 11; of(1,2) = 12; of(2,2) = 13; of(3,2) = 40";
    e.edge("41 'BEYOND: no such sheet.' too small", some, "write(-1,0,5) = BEYOND", stays);
    e.edge("41 'BEYOND: no such sheet.' too large", some, "write(4,0,5) = BEYOND", stays);
    e.edge("41 'BEYOND: no such sheet.' the least int", some, "write(MIN,0,5) = BEYOND", stays);
    e.edge("41 'BEYOND: no such sheet.' the greatest int", some, "write(MAX,0,5) = BEYOND", stays);
    e.edge("41 'MISSING.' at first", some, "write(0,0,5) = MISSING", "load(0) = MISSING; " + stays);
    e.edge("41 'MISSING.' any more", some + "sheet(1,0,0); ", "write(1,0,5) = MISSING", "load(1) = MISSING; sheet(1,8,1) = 1; load(1) = 0");
    e.edge("41 'BEYOND: no such number.' too small", some, "write(1,-1,5) = BEYOND", stays);
    e.edge("41 'BEYOND: no such number.' too large", some, "write(1,3,5) = BEYOND", stays);
    e.edge("41 'BEYOND: no such number.' behind 40", EIGHT + "sheet(1,8,40); ", "write(1,40,5) = BEYOND", "load(1) = 0; write(1,39,5) = 1");
    e.edge("41 'BEYOND: no such number.' the sheet has none", EIGHT + "sheet(1,8,0); ", "write(1,0,5) = BEYOND", "load(1) = 0");
    e.edge("41 'BEYOND: no such number.' the least int", some, "write(1,MIN,5) = BEYOND", stays);
    e.edge("41 'BEYOND: no such number.' the greatest int", some, "write(1,MAX,5) = BEYOND", stays);
    e.edge("41 'BEYOND: no such number.' it had it, ahead of a new row", some + "sheet(1,8,2); ", "write(1,2,5) = BEYOND", "load(1) = 0");
    e.edge("41 " + ORDER + "MISSING ahead of BEYOND, no such number", some, "write(0,-1,5) = MISSING", "status(0) = 0; " + stays);
  }

  /** What a number of so many bits becomes is told by judge(), SOFT of a DEED being set to it, or by load(). */
  private static void writeLimits(Edge e) {
    String eight = EIGHT + "sheet(0,8,1); ";
    String sixteen = EIGHT + "sheet(0,16,1); ";
    String all = EIGHT + "sheet(0,32,1); ";
    String is7 = "load(0) = 1; of(0,2) = 7";
    String isNone = "load(0) = 0; of(0,2) = 40";
    e.edge("41 'v (its lowest bits)' 8 bits of 263", eight, "write(0,0,263) = 1", is7);
    e.edge("41 'v (its lowest bits)' 8 bits of -249", eight, "write(0,0,-249) = 1", is7);
    e.edge("41 'v (its lowest bits)' 8 bits of 65543", eight, "write(0,0,65543) = 1", is7);
    e.edge("41 'v (its lowest bits)' 16 bits of 263", sixteen, "write(0,0,263) = 1", isNone);
    e.edge("41 'v (its lowest bits)' 16 bits of 65543", sixteen, "write(0,0,65543) = 1", is7);
    e.edge("41 'v (its lowest bits)' 16 bits of -65529", sixteen, "write(0,0,-65529) = 1", is7);
    e.edge("41 'v (its lowest bits)' 32 bits of 263", all, "write(0,0,263) = 1", isNone);
    e.edge("41 'v (its lowest bits)' 32 bits of 65543", all, "write(0,0,65543) = 1", isNone);
    e.edge("41 'v (its lowest bits)' 32 bits of -249", all, "write(0,0,-249) = 1", isNone);
    e.edge("41 'v (its lowest bits)' 8 bits of the least int", eight + "write(0,0,7); ", "write(0,0,MIN) = 1", isNone + "; judge(0,0) = 0");
    e.edge("41 'v (its lowest bits)' 16 bits of the least int", sixteen + "write(0,0,7); ", "write(0,0,MIN) = 1", isNone + "; judge(0,0) = 0");
    e.edge("41 'v (its lowest bits)' 32 bits of the least int", all + "write(0,0,7); ", "write(0,0,MIN) = 1", isNone + "; judge(0,0) = 1");
    e.edge("41 '(told with their sign: of 8 bits 255 is -1)' 255", eight, "write(0,0,255) = 1", isNone);
    e.edge("41 '(told with their sign: of 8 bits 255 is -1)' 128 is no wax", eight, "write(0,0,128) = 1", isNone);
    // Without its sign it would be 156, with it it is -100: neither is WAX. Less 256 more it is 99.
    e.edge("41 '(told with their sign: of 8 bits 255 is -1)' 355 is 99", eight, "write(0,0,355) = 1", "load(0) = 1; of(0,2) = 99");
    e.edge("41 'Number i of a sheet becomes v' the least number", EIGHT + THREE, "write(1,0,99) = 1", "load(1) = 3; of(0,2) = 99; of(1,2) = 12; of(2,2) = 13");
    e.edge("41 'Number i of a sheet becomes v' the greatest number", EIGHT + THREE, "write(1,2,99) = 1", "load(1) = 3; of(0,2) = 11; of(1,2) = 12; of(2,2) = 99");
    e.edge("41 'Number i of a sheet becomes v' the 40th", EIGHT + "sheet(1,8,40); ", "write(1,39,99) = 1", "copy(1,39,1,0,1) = 1; load(1) = 1; of(0,2) = 99");
  }

  /** Sheets 0 and 1 have 16 bits and 4 numbers, 2 has 8 bits and 4 numbers, 3 is MISSING. */
  private static final String SHEETS = EIGHT
      + "sheet(0,16,4); write(0,0,1); write(0,1,2); write(0,2,3); write(0,3,4); "
      + "sheet(1,16,4); write(1,0,51); write(1,1,52); write(1,2,53); write(1,3,54); sheet(2,8,4); ";
  private static final String SHEETS_STAY =
      "load(0) = 4; of(0,2) = 1; of(1,2) = 2; of(2,2) = 3; of(3,2) = 4; load(1) = 4; of(0,2) = 51; of(1,2) = 52; of(2,2) = 53; of(3,2) = 54";

  private static void copyRefused(Edge e) {
    String sheet = "'BEYOND: no such sheet (either)' ";
    e.edge("42 " + sheet + "the first too small", SHEETS, "copy(-1,0,1,0,1) = BEYOND", SHEETS_STAY);
    e.edge("42 " + sheet + "the first too large", SHEETS, "copy(4,0,1,0,1) = BEYOND", SHEETS_STAY);
    e.edge("42 " + sheet + "the other too small", SHEETS, "copy(0,0,-1,0,1) = BEYOND", SHEETS_STAY);
    e.edge("42 " + sheet + "the other too large", SHEETS, "copy(0,0,4,0,1) = BEYOND", SHEETS_STAY);
    e.edge("42 " + sheet + "the least int", SHEETS, "copy(MIN,0,1,0,1) = BEYOND", SHEETS_STAY);
    e.edge("42 " + sheet + "the greatest int", SHEETS, "copy(0,0,MAX,0,1) = BEYOND", SHEETS_STAY);
    e.edge("42 'MISSING: one is' the first", SHEETS, "copy(3,0,1,0,1) = MISSING", SHEETS_STAY);
    e.edge("42 'MISSING: one is' the other", SHEETS, "copy(0,0,3,0,1) = MISSING", "load(3) = MISSING; " + SHEETS_STAY);
    e.edge("42 'MISSING: one is' both", SHEETS, "copy(3,0,3,0,1) = MISSING", SHEETS_STAY);
    e.edge("42 'MISSING: one is' of no numbers", SHEETS, "copy(3,0,1,0,0) = MISSING", SHEETS_STAY);
    e.edge("42 'KIND: they are not of as many bits' 8 to 16", SHEETS, "copy(2,0,1,0,1) = KIND", SHEETS_STAY);
    e.edge("42 'KIND: they are not of as many bits' 16 to 8", SHEETS, "copy(0,0,2,0,1) = KIND", "load(2) = 0; " + SHEETS_STAY);
    e.edge("42 'KIND: they are not of as many bits' 32 to 16", SHEETS + "sheet(3,32,4); ", "copy(3,0,1,0,1) = KIND", SHEETS_STAY);
    e.edge("42 'KIND: they are not of as many bits' of no numbers", SHEETS, "copy(2,0,1,0,0) = KIND", SHEETS_STAY);
    String many = "'BEYOND: one has not so many, or from, to or n is below 0' ";
    e.edge("42 " + many + "n above the first's", SHEETS, "copy(0,0,1,0,5) = BEYOND", SHEETS_STAY);
    e.edge("42 " + many + "the first ends by from and n", SHEETS, "copy(0,2,1,0,3) = BEYOND", SHEETS_STAY);
    e.edge("42 " + many + "the other ends by to and n", SHEETS, "copy(0,0,1,2,3) = BEYOND", SHEETS_STAY);
    e.edge("42 " + many + "from is the first's size", SHEETS, "copy(0,4,1,0,1) = BEYOND", SHEETS_STAY);
    e.edge("42 " + many + "to is the other's size", SHEETS, "copy(0,0,1,4,1) = BEYOND", SHEETS_STAY);
    e.edge("42 " + many + "the first has fewer", SHEETS + "sheet(3,16,1); ", "copy(3,0,1,0,2) = BEYOND", SHEETS_STAY);
    e.edge("42 " + many + "the other has fewer", SHEETS + "sheet(3,16,1); ", "copy(0,0,3,0,2) = BEYOND", "load(3) = 0; " + SHEETS_STAY);
    e.edge("42 " + many + "from below 0", SHEETS, "copy(0,-1,1,0,1) = BEYOND", SHEETS_STAY);
    e.edge("42 " + many + "to below 0", SHEETS, "copy(0,0,1,-1,1) = BEYOND", SHEETS_STAY);
    e.edge("42 " + many + "n below 0", SHEETS, "copy(0,1,1,1,-1) = BEYOND", SHEETS_STAY);
    e.edge("42 " + many + "from below 0, though of no numbers", SHEETS, "copy(0,-1,1,0,0) = BEYOND", SHEETS_STAY);
    e.edge("42 " + many + "to below 0, though of no numbers", SHEETS, "copy(0,0,1,-1,0) = BEYOND", SHEETS_STAY);
    e.edge("42 " + many + "from and n wrap around to below 0", SHEETS, "copy(0,MAX,1,0,1) = BEYOND", SHEETS_STAY);
    e.edge("42 " + many + "to and n wrap around to below 0", SHEETS, "copy(0,0,1,MAX,1) = BEYOND", SHEETS_STAY);
    e.edge("42 " + many + "n wraps around with from", SHEETS, "copy(0,1,1,1,MAX) = BEYOND", SHEETS_STAY);
    e.edge("42 " + many + "the least int for n", SHEETS, "copy(0,0,1,0,MIN) = BEYOND", SHEETS_STAY);
    e.edge("42 " + many + "the least int for from", SHEETS, "copy(0,MIN,1,0,1) = BEYOND", SHEETS_STAY);
    e.edge("42 " + many + "the least int for to", SHEETS, "copy(0,0,1,MIN,1) = BEYOND", SHEETS_STAY);
    e.edge("42 " + many + "in itself", SHEETS, "copy(0,0,0,1,4) = BEYOND", SHEETS_STAY);
  }

  private static void copyOrder(Edge e) {
    e.edge("42 " + ORDER + "BEYOND, no such sheet, ahead of MISSING", SHEETS, "copy(3,0,4,0,1) = BEYOND", "status(5) = 0; " + SHEETS_STAY);
    e.edge("42 " + ORDER + "BEYOND, no such first sheet, ahead of MISSING", SHEETS, "copy(4,0,3,0,1) = BEYOND", "status(5) = 0; " + SHEETS_STAY);
    e.edge("42 " + ORDER + "MISSING ahead of KIND", SHEETS, "copy(2,0,3,0,1) = MISSING", "status(2) = 0; " + SHEETS_STAY);
    e.edge("42 " + ORDER + "MISSING ahead of BEYOND, not so many", SHEETS, "copy(3,0,1,0,9) = MISSING", "status(0) = 0; " + SHEETS_STAY);
    e.edge("42 " + ORDER + "KIND ahead of BEYOND, not so many", SHEETS, "copy(2,0,1,0,9) = KIND", "status(0) = 0; " + SHEETS_STAY);
    e.edge("42 " + ORDER + "KIND ahead of BEYOND, below 0", SHEETS, "copy(2,-1,1,-1,-1) = KIND", "status(0) = 0; " + SHEETS_STAY);
  }

  private static void copyLimits(Edge e) {
    e.edge("42 'n numbers of a sheet from one on come to another one' all", SHEETS, "copy(0,0,1,0,4) = 4", "load(1) = 4; of(0,2) = 1; of(3,2) = 4");
    e.edge("42 'n numbers of a sheet from one on come to another one' none", SHEETS, "copy(0,0,1,0,0) = 0", SHEETS_STAY);
    e.edge("42 'n numbers of a sheet from one on come to another one' none, at both ends", SHEETS, "copy(0,4,1,4,0) = 0", SHEETS_STAY);
    e.edge("42 'n numbers of a sheet from one on come to another one' none of none", "sheet(0,8,0); sheet(1,8,0); ", "copy(0,0,1,0,0) = 0", "load(0) = 0");
    e.edge("42 'n numbers of a sheet from one on come to another one' the last to the first", SHEETS, "copy(0,3,1,0,1) = 1", "load(1) = 4; of(0,2) = 4; of(1,2) = 52; of(2,2) = 53; of(3,2) = 54");
    e.edge("42 'n numbers of a sheet from one on come to another one' the first to the last", SHEETS, "copy(0,0,1,3,1) = 1", "load(1) = 4; of(0,2) = 51; of(1,2) = 52; of(2,2) = 53; of(3,2) = 1");
    e.edge("42 'n numbers of a sheet from one on come to another one' 40 of 40",
        "deed(0,0); sheet(0,8,40); sheet(1,8,40); write(0,0,7); write(0,39,9); ", "copy(0,0,1,0,40) = 40", "load(1) = 1; of(0,2) = 7; copy(1,39,1,0,1) = 1; load(1) = 1; of(0,2) = 9");
    e.edge("42 '(as they all were)' on in itself", SHEETS, "copy(0,0,0,1,3) = 3", "load(0) = 4; of(0,2) = 1; of(1,2) = 1; of(2,2) = 2; of(3,2) = 3");
    e.edge("42 '(as they all were)' back in itself", SHEETS, "copy(0,1,0,0,3) = 3", "load(0) = 4; of(0,2) = 2; of(1,2) = 3; of(2,2) = 4; of(3,2) = 4");
    e.edge("42 '(as they all were)' to where they are", SHEETS, "copy(0,0,0,0,4) = 4", SHEETS_STAY);
  }

  private static void load(Edge e) {
    String some = EIGHT + THREE;
    String stays = "of(0,2) = 40; of(7,2) = 40; load(1) = 3; of(0,2) = 11";
    e.edge("43 'BEYOND: no such sheet.' too small", some, "load(-1) = BEYOND", stays);
    e.edge("43 'BEYOND: no such sheet.' too large", some, "load(4) = BEYOND", stays);
    e.edge("43 'BEYOND: no such sheet.' the least int", some, "load(MIN) = BEYOND", stays);
    e.edge("43 'BEYOND: no such sheet.' the greatest int", some, "load(MAX) = BEYOND", stays);
    e.edge("43 'MISSING.' at first", some, "load(0) = MISSING", stays);
    e.edge("43 'MISSING.' any more", some + "sheet(1,0,3); ", "load(1) = MISSING", "of(0,2) = 40");
    e.edge("43 'MISSING.' there are no DEEDS either", "", "load(3) = MISSING", "count(1) = 0");
  }

  private static void loadEnds(Edge e) {
    String ends = "'It ends at the first that isn't 1 to 99, or for which there is no DEED' ";
    e.edge("43 " + ends + "there are no DEEDS", THREE, "load(1) = 0", "count(1) = 0");
    e.edge("43 " + ends + "the sheet has no numbers", EIGHT + "sheet(0,8,0); ", "load(0) = 0", "of(0,2) = 40");
    e.edge("43 " + ends + "fewer DEEDS than numbers", "say[deed 0; deed 0]; " + THREE, "load(1) = 2", "of(0,2) = 11; of(1,2) = 12; count(1) = 2");
    e.edge("43 " + ends + "as many DEEDS as numbers", "say[deed 0; deed 0; deed 0]; " + THREE, "load(1) = 3", "of(2,2) = 13");
    e.edge("43 " + ends + "fewer numbers than DEEDS", EIGHT + THREE, "load(1) = 3", "of(2,2) = 13; of(3,2) = 40");
    e.edge("43 " + ends + "eight DEEDS, nine numbers",
        EIGHT + "sheet(0,8,9); write(0,0,1); write(0,1,2); write(0,2,3); write(0,3,4); write(0,4,5); write(0,5,6); write(0,6,7); write(0,7,8); write(0,8,9); ", "load(0) = 8", "of(0,2) = 1; of(7,2) = 8");
    e.edge("43 " + ends + "0 is too small", EIGHT + THREE + "write(1,1,0); ", "load(1) = 1", "of(0,2) = 11; of(1,2) = 40; of(2,2) = 40");
    e.edge("43 " + ends + "1 is not", EIGHT + THREE + "write(1,1,1); ", "load(1) = 3", "of(1,2) = 1; of(2,2) = 13");
    e.edge("43 " + ends + "99 is not too large", EIGHT + THREE + "write(1,1,99); ", "load(1) = 3", "of(1,2) = 99; of(2,2) = 13");
    e.edge("43 " + ends + "100 is", EIGHT + THREE + "write(1,1,100); ", "load(1) = 1", "of(0,2) = 11; of(1,2) = 40; of(2,2) = 40");
    e.edge("43 " + ends + "below 0", EIGHT + THREE + "write(1,1,-1); ", "load(1) = 1", "of(1,2) = 40; of(2,2) = 40");
    e.edge("43 " + ends + "the first isn't", EIGHT + THREE + "write(1,0,0); ", "load(1) = 0", "of(0,2) = 40; of(1,2) = 40");
    e.edge("43 " + ends + "the last isn't", EIGHT + THREE + "write(1,2,0); ", "load(1) = 2", "of(1,2) = 12; of(2,2) = 40");
    e.edge("43 " + ends + "the greatest int", EIGHT + "sheet(0,32,2); write(0,0,9); write(0,1,MAX); ", "load(0) = 1", "of(0,2) = 9; of(1,2) = 40");
    e.edge("43 " + ends + "the least int", EIGHT + "sheet(0,32,2); write(0,0,9); write(0,1,MIN); ", "load(0) = 1", "of(0,2) = 9; of(1,2) = 40");
  }

  private static void judgeRefused(Edge e) {
    String one = "deed(0,5); change(0,3,5); sheet(1,8,3); write(1,0,4); write(1,1,3); write(1,2,2); ";
    String stays = "now(0) = 0; of(0,3) = 5; judge(1,0) = 0";
    e.edge("44 'BEYOND: no such sheet.' too small", one, "judge(-1,0) = BEYOND", stays);
    e.edge("44 'BEYOND: no such sheet.' too large", one, "judge(4,0) = BEYOND", stays);
    e.edge("44 'BEYOND: no such sheet.' the least int", one, "judge(MIN,0) = BEYOND", stays);
    e.edge("44 'BEYOND: no such sheet.' the greatest int", one, "judge(MAX,0) = BEYOND", stays);
    e.edge("44 'MISSING.' at first", one, "judge(0,0) = MISSING", stays);
    e.edge("44 'MISSING.' any more", one + "sheet(1,0,0); ", "judge(1,0) = MISSING", "of(0,3) = 5");
    e.edge("44 'BEYOND: no such DEED.' there are none", "sheet(1,8,3); ", "judge(1,0) = BEYOND", "count(1) = 0");
    e.edge("44 'BEYOND: no such DEED.' too small", one, "judge(1,-1) = BEYOND", stays);
    e.edge("44 'BEYOND: no such DEED.' too large", one, "judge(1,1) = BEYOND", stays);
    e.edge("44 'BEYOND: no such DEED.' a ninth", EIGHT + "sheet(1,8,3); ", "judge(1,8) = BEYOND", "judge(1,7) = 0");
    e.edge("44 'BEYOND: no such DEED.' the least int", one, "judge(1,MIN) = BEYOND", stays);
    e.edge("44 'BEYOND: no such DEED.' the greatest int", one, "judge(1,MAX) = BEYOND", stays);
    e.edge("44 'BEYOND: no such DEED.' though the sheet has no numbers", one + "sheet(0,8,0); ", "judge(0,1) = BEYOND", stays);
    String late = "say[deed 5]; sheet(1,8,40); sheet(2,8,1); ";
    e.edge("44 'STATE: HOUR would be above 9999' by 1 of 40", "at[9960]; " + late, "judge(1,0) = STATE", "now(0) = 9960; judge(2,0) = 0; of(0,3) = 0");
    e.edge("44 'STATE: HOUR would be above 9999' by 1 of 1", "at[9999]; " + late, "judge(2,0) = STATE", "now(0) = 9999; of(0,3) = 0");
    e.edge("44 " + ORDER + "BEYOND, no such sheet, ahead of STATE", "at[9999]; " + late, "judge(4,0) = BEYOND", "status(4) = 0; judge(1,0) = STATE");
    e.edge("44 " + ORDER + "MISSING ahead of BEYOND, no such DEED", one, "judge(0,9) = MISSING", "status(0) = 0; " + stays);
    e.edge("44 " + ORDER + "MISSING ahead of STATE", "at[9999]; " + late, "judge(0,0) = MISSING", "status(4) = 0; judge(1,0) = STATE");
    e.edge("44 " + ORDER + "BEYOND, no such DEED, ahead of STATE", "at[9999]; " + late, "judge(1,1) = BEYOND", "status(4) = 0; judge(1,0) = STATE");
  }

  private static void judgeLimits(Edge e) {
    String one = "deed(0,5); change(0,3,5); sheet(1,8,3); write(1,0,4); write(1,1,3); write(1,2,2); ";
    String stays = "now(0) = 0; of(0,3) = 5";
    String late = "say[deed 5]; sheet(1,8,40); sheet(2,8,1); sheet(3,8,0); ";
    e.edge("44 '0 if all are' the sheet has no numbers", one + "sheet(0,8,0); ", "judge(0,0) = 0", stays);
    e.edge("44 '0 if all are' no numbers at the last HOUR", "at[9999]; " + late, "judge(3,0) = 0", "now(0) = 9999");
    e.edge("44 '0 if all are' three", one, "judge(1,0) = 0", stays);
    e.edge("44 '0 if all are' of 40", "deed(0,5); sheet(0,8,40); ", "judge(0,0) = 0", "now(0) = 0");
    e.edge("44 'else 1 and the place of the first that isn't' the first", one + "write(1,0,5); ", "judge(1,0) = 1", stays);
    e.edge("44 'else 1 and the place of the first that isn't' the last", one + "write(1,2,1); ", "judge(1,0) = 3", stays);
    e.edge("44 'else 1 and the place of the first that isn't' of several the first", one + "write(1,1,9); write(1,2,9); ", "judge(1,0) = 2", stays);
    e.edge("44 'else 1 and the place of the first that isn't' the 40th", "deed(0,5); sheet(0,8,40); write(0,39,1); ", "judge(0,0) = 40", "now(0) = 0");
    e.edge("44 'else 1 and the place of the first that isn't' below 0", "deed(0,5); sheet(0,8,1); write(0,0,-1); ", "judge(0,0) = 1", "now(0) = 0");
    e.edge("44 'STATE: HOUR would be above 9999' just 9999 by 40", "at[9959]; " + late, "judge(1,0) = 0", "now(0) = 9959; judge(2,0) = 0");
    e.edge("44 'STATE: HOUR would be above 9999' just 9999 by 1", "at[9998]; " + late, "judge(2,0) = 0", "now(0) = 9998; judge(1,0) = STATE");
  }
}
