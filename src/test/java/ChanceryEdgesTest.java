/** The edges of promises 1 to 10, a case for each sentence that names one. */
public final class ChanceryEdgesTest {
  private static final String EIGHT =
      "deed(0,0); deed(1,1); deed(2,2); deed(3,3); deed(4,4); deed(5,5); deed(6,0); deed(0,1); ";
  private static final String CHAIN =
      "say[deed 0; deed 0 on 0; deed 0 on 1; deed 0 on 2; deed 0 on 3; deed 0 on 4; deed 0 on 5; deed 0 on 6]; ";

  public static void main(String[] args) {
    Edge edge = new Edge("chancery edges");
    cases(edge);
    edge.end();
  }

  static void cases(Edge e) {
    newObject(e);
    deed(e);
    ofRefused(e);
    ofLimits(e);
    ofKinds(e);
    changeKindAndShelf(e);
    changeWaxAndSoft(e);
    changeHanging(e);
    changeRefused(e);
    renew(e);
    shelf(e);
    summer(e);
    sun(e);
    heat(e);
    lie(e);
  }

  private static void newObject(Edge e) {
    e.edge("1 'no DEEDS' count", "", "count(1) = 0", "of(0,0) = BEYOND; deed(0,0) = 0");
    e.edge("1 'no DEEDS' none holds", "", "now(1) = 0", "now(2) = 0; now(3) = 0");
    e.edge("1 'no DEEDS' none lies", "", "lie(0) = 0", "lie(5) = 0");
    e.edge("1 'no DEEDS' no first one to end", "", "soonest() = NONE", "count(1) = 0");
    e.edge("1 'no DEEDS' a war needs none to run", "", "war() = 0", "key() = NONE");
    e.edge("1 'THE TAPE is empty' count", "", "count(5) = 0", "wipe() = 0; feed(0, 4) = 4");
    e.edge("1 'THE TAPE is empty' a text ends too early at 0", "", "text() = -1", "status(-1) = 0");
    e.edge("1 'no image is kept' undo", "", "undo() = NONE", "count(0) = 0; count(2) = 15; tear() = 0");
    e.edge("1 'no image is kept' tear", "", "tear() = 0", "undo() = NONE");
    e.edge("1 'All as at first' SUMMER", "", "summer(0) = 15", "count(2) = 0");
    e.edge("1 'All as at first' HOUR", "", "now(0) = 0", "hours(1) = 0; now(0) = 1");
    e.edge("1 'All as at first' z", "", "count(6) = 1", "seed(0) = 1");
    e.edge("1 'All as at first' no SHUTTER is open", "", "count(3) = 0", "shelf(0,0,0) = 0; shelf(5,0,0) = 0");
    e.edge("1 'All as at first' no ICE", "", "count(4) = 0", "shelf(0,1,0) = 0; shelf(5,1,0) = 0");
    e.edge("1 'All as at first' no CANDLE", "", "shelf(0,2,0) = 0", "shelf(5,2,0) = 0; heat(0,0) = 15");
    e.edge("1 'All as at first' SPOTS hold nothing", "", "count(7) = 0", "as(0,0) = MISSING; as(9,0) = MISSING");
    e.edge("1 'All as at first' SHEETS are MISSING", "", "load(0) = MISSING", "load(3) = MISSING; sheet(0,8,0) = 0; load(0) = 0");
    e.edge("1 'All as at first' no findings", "", "status(-1) = 0", "status(0) = 0; status(6) = 0");
  }

  private static void deed(Edge e) {
    String none = "count(1) = 0; of(0,0) = BEYOND; deed(1,2) = 0; of(0,0) = 1; of(0,1) = 2";
    e.edge("2 'BEYOND.' a KIND too small", "", "deed(-1,0) = BEYOND", none);
    e.edge("2 'BEYOND.' a KIND too large", "", "deed(7,0) = BEYOND", none);
    e.edge("2 'BEYOND.' the least int for a KIND", "", "deed(MIN,0) = BEYOND", none);
    e.edge("2 'BEYOND.' the greatest int for a KIND", "", "deed(MAX,0) = BEYOND", none);
    e.edge("2 'BEYOND.' a SHELF too small", "", "deed(0,-1) = BEYOND", none);
    e.edge("2 'BEYOND.' a SHELF too large", "", "deed(0,6) = BEYOND", none);
    e.edge("2 'BEYOND.' the least int for a SHELF", "", "deed(0,MIN) = BEYOND", none);
    e.edge("2 'BEYOND.' the greatest int for a SHELF", "", "deed(0,MAX) = BEYOND", none);
    e.edge("2 'BEYOND.' the least KIND and SHELF stand", "", "deed(0,0) = 0", "of(0,0) = 0; of(0,1) = 0; count(1) = 1");
    e.edge("2 'BEYOND.' the greatest KIND and SHELF stand", "", "deed(6,5) = 0", "of(0,0) = 6; of(0,1) = 5");
    String seven = "deed(0,0); deed(0,0); deed(0,0); deed(0,0); deed(0,0); deed(0,0); deed(0,0); ";
    e.edge("2 'at most 8' the eighth fits", seven, "deed(6,5) = 7", "count(1) = 8; of(7,0) = 6; of(7,1) = 5; deed(0,0) = FULL");
    e.edge("2 'FULL.' a ninth", EIGHT, "deed(6,5) = FULL", "count(1) = 8; of(7,0) = 0; of(7,1) = 1; lie(5) = 32; of(8,0) = BEYOND");
    e.edge("2 'FULL.' a ninth behind eight of a TEXT", CHAIN, "deed(0,0) = FULL", "count(1) = 8; of(7,5) = 6; lie(0) = 255");
    e.edge("2 'FULL.' no more behind undo()", seven + "image(); deed(0,0); undo(); ", "deed(1,1) = 7", "deed(0,0) = FULL");
    e.edge("2 'FULL.' those that have RUN count too", EIGHT + "change(0,3,99); hours(1); ", "deed(0,0) = FULL", "now(2) = 1; count(1) = 8");
    e.edge("2 'Each act tells its findings in the order in which they are asked' BEYOND ahead of FULL, KIND", EIGHT, "deed(7,0) = BEYOND", "status(1) = 0; deed(0,0) = FULL");
    e.edge("2 'Each act tells its findings in the order in which they are asked' BEYOND ahead of FULL, SHELF", EIGHT, "deed(0,6) = BEYOND", "status(1) = 0; deed(0,0) = FULL");
    e.edge("2 '40 at first' WAX, SOFT and what it HANGS ON", "deed(0,0); change(0,2,9); change(0,3,9); ", "deed(0,0) = 1", "of(1,2) = 40; of(1,3) = 0; of(1,4) = 0; of(1,5) = -1");
  }

  private static void ofRefused(Edge e) {
    e.edge("3 'BEYOND.' there are no DEEDS", "", "of(0,0) = BEYOND", "count(1) = 0; deed(3,4) = 0; of(0,0) = 3");
    e.edge("3 'BEYOND.' a DEED too small", "deed(3,4); ", "of(-1,0) = BEYOND", "of(0,0) = 3; of(0,1) = 4");
    e.edge("3 'BEYOND.' a DEED too large", "deed(3,4); ", "of(1,0) = BEYOND", "of(0,0) = 3; deed(1,1) = 1; of(1,0) = 1");
    e.edge("3 'BEYOND.' a ninth DEED", EIGHT, "of(8,0) = BEYOND", "of(7,0) = 0; count(1) = 8");
    e.edge("3 'BEYOND.' the least int for a DEED", EIGHT, "of(MIN,0) = BEYOND", "of(0,1) = 0");
    e.edge("3 'BEYOND.' the greatest int for a DEED", EIGHT, "of(MAX,0) = BEYOND", "of(0,1) = 0");
    e.edge("3 'BEYOND.' one that undo() took away", "image(); deed(0,0); undo(); ", "of(0,0) = BEYOND", "count(1) = 0");
    e.edge("3 'BEYOND.' what too small", "deed(3,4); ", "of(0,-1) = BEYOND", "of(0,0) = 3");
    e.edge("3 'BEYOND.' what too large", "deed(3,4); ", "of(0,10) = BEYOND", "of(0,9) = 1");
    e.edge("3 'BEYOND.' the least int for what", "deed(3,4); ", "of(0,MIN) = BEYOND", "of(0,9) = 1");
    e.edge("3 'BEYOND.' the greatest int for what", "deed(3,4); ", "of(0,MAX) = BEYOND", "of(0,9) = 1");
  }

  private static void ofLimits(Edge e) {
    e.edge("3 'what 0 KIND' the least what of the least DEED", EIGHT, "of(0,0) = 0", "of(1,0) = 1");
    e.edge("3 '9 whether its PEACE HOLDS (1, 0)' the greatest what of the greatest DEED", EIGHT, "of(7,9) = 1", "of(7,8) = 9");
    e.edge("3 '9 whether its PEACE HOLDS (1, 0)' not, by the other end of a chain of eight", CHAIN + "change(0,3,99); hours(1); ", "of(7,9) = 0", "of(7,4) = 0; of(0,4) = 1; now(1) = 0");
    e.edge("3 '9 whether its PEACE HOLDS (1, 0)' what hangs on one doesn't matter to it", CHAIN + "change(7,3,99); hours(1); ", "of(6,9) = 1", "of(7,9) = 0");
    e.edge("3 '(-1: none)' it hangs on none: no finding", "deed(0,0); ", "of(0,5) = -1", "status(-1) = 0");
    e.edge("3 '5 the DEED that it HANGS ON' the least", CHAIN, "of(1,5) = 0", "of(7,5) = 6");
    e.edge("3 '4 RUN (1, 0)' not yet, however SOFT", "deed(0,0); change(0,3,99); ", "of(0,4) = 0", "of(0,3) = 99; hours(1) = 1; of(0,4) = 1");
    e.edge("3 '8 what it FEELS now' at the last HOUR", "deed(0,0); at[9999]; ", "of(0,8) = 25", "now(0) = 9999");
  }

  private static void ofKinds(Edge e) {
    e.edge("3 'two thirds (cut)' of 52", "say[summer 40; candle 0 here; buried 0]; ", "of(0,8) = 34", "heat(0,0) = 52");
    e.edge("3 'two thirds (cut)' of 2", "say[summer 2; buried 0]; ", "of(0,8) = 1", "heat(0,0) = 2");
    e.edge("3 'two thirds (cut)' of 1", "say[summer 1; buried 0]; ", "of(0,8) = 0", "heat(0,0) = 1");
    e.edge("3 'two thirds (cut)' of -1", "say[summer 5; buried 1]; ", "of(0,8) = 0", "heat(1,0) = -1");
    e.edge("3 'two thirds (cut)' of -2", "say[summer 4; buried 1]; ", "of(0,8) = -1", "heat(1,0) = -2");
    e.edge("3 'two thirds (cut)' of -40", "say[summer 0; ice 5 1; false 5]; ", "of(0,8) = -26", "heat(5,0) = -40");
    e.edge("3 'as a DOUBLE one, 4 less' below 0", "say[summer 0; stacked 0]; ", "of(0,8) = -4", "heat(0,0) = 0");
    e.edge("3 'TALLOW: WAX less 8' below 0", "say[tallow 0 wax 1]; ", "of(0,6) = -7", "of(0,2) = 1");
    e.edge("3 'TALLOW: WAX less 8' a COPY too", "say[copy 0 wax 99]; ", "of(0,6) = 91", "of(0,7) = 5");
    e.edge("3 'as a BURIED one, 5 less' below 0", "say[false 0 wax 1]; ", "of(0,6) = -4", "of(0,7) = 10");
    e.edge("3 'twice that of a DEED' a STACKED one too", "say[stacked 0]; ", "of(0,7) = 20", "of(0,6) = 40");
    e.edge("3 'half of that of a TALLOW one' cut of 10", "say[copy 0]; ", "of(0,7) = 5", "of(0,6) = 32");
  }

  private static void changeKindAndShelf(Edge e) {
    String two = "say[deed 3; double 4 on 0]; ";
    String same = "of(1,0) = 1; of(1,1) = 4; of(1,2) = 40; of(1,3) = 0; of(1,5) = 0; lie(4) = 2";
    e.edge("4 'BEYOND.' a KIND too small", two, "change(1,0,-1) = BEYOND", same);
    e.edge("4 'BEYOND.' a KIND too large", two, "change(1,0,7) = BEYOND", same);
    e.edge("4 'BEYOND.' the least int for a KIND", two, "change(1,0,MIN) = BEYOND", same);
    e.edge("4 'BEYOND.' the greatest int for a KIND", two, "change(1,0,MAX) = BEYOND", same);
    e.edge("4 'KIND (what 0)' the least", two, "change(1,0,0) = 1", "of(1,0) = 0; of(0,0) = 0");
    e.edge("4 'KIND (what 0)' the greatest", two, "change(1,0,6) = 1", "of(1,0) = 6; of(0,0) = 0");
    e.edge("4 'BEYOND.' a SHELF too small", two, "change(1,1,-1) = BEYOND", same);
    e.edge("4 'BEYOND.' a SHELF too large", two, "change(1,1,6) = BEYOND", same);
    e.edge("4 'BEYOND.' the least int for a SHELF", two, "change(1,1,MIN) = BEYOND", same);
    e.edge("4 'BEYOND.' the greatest int for a SHELF", two, "change(1,1,MAX) = BEYOND", same);
    e.edge("4 'SHELF (1)' the least", two, "change(1,1,0) = 4", "of(1,1) = 0; lie(0) = 2; lie(4) = 0");
    e.edge("4 'SHELF (1)' the greatest", two, "change(1,1,5) = 4", "of(1,1) = 5; lie(5) = 2; lie(4) = 0");
    e.edge("4 'becomes v: what it was' v as it is", two, "change(1,1,4) = 4", same);
  }

  private static void changeWaxAndSoft(Edge e) {
    String two = "say[deed 3; double 4 wax 41 on 0]; change(1,3,7); ";
    String same = "of(1,0) = 1; of(1,1) = 4; of(1,2) = 41; of(1,3) = 7; of(1,5) = 0";
    e.edge("4 'BEYOND.' WAX too small", two, "change(1,2,0) = BEYOND", same);
    e.edge("4 'BEYOND.' WAX too large", two, "change(1,2,100) = BEYOND", same);
    e.edge("4 'BEYOND.' WAX below 0", two, "change(1,2,-1) = BEYOND", same);
    e.edge("4 'BEYOND.' the least int for WAX", two, "change(1,2,MIN) = BEYOND", same);
    e.edge("4 'BEYOND.' the greatest int for WAX", two, "change(1,2,MAX) = BEYOND", same);
    e.edge("4 'WAX (2)' the least", two, "change(1,2,1) = 41", "of(1,2) = 1; of(1,6) = 1");
    e.edge("4 'WAX (2)' the greatest", two, "change(1,2,99) = 41", "of(1,2) = 99; of(1,6) = 99");
    e.edge("4 'BEYOND.' SOFT too small", two, "change(1,3,-1) = BEYOND", same);
    e.edge("4 'BEYOND.' SOFT too large", two, "change(1,3,100) = BEYOND", same);
    e.edge("4 'BEYOND.' the least int for SOFT", two, "change(1,3,MIN) = BEYOND", same);
    e.edge("4 'BEYOND.' the greatest int for SOFT", two, "change(1,3,MAX) = BEYOND", same);
    e.edge("4 'SOFT (3)' the least", two, "change(1,3,0) = 7", "of(1,3) = 0; now(3) = 0");
    e.edge("4 'SOFT (3)' the greatest", two, "change(1,3,99) = 7", "of(1,3) = 99; of(1,4) = 0; now(2) = 0");
    e.edge("4 'SOFT (3)' of one that has RUN", two + "change(0,3,30); hours(1); ", "change(0,3,0) = 29", "of(0,4) = 1; of(0,3) = 0");
  }

  private static void changeHanging(Edge e) {
    String three = "say[deed 0; deed 0; deed 0 on 0]; ";
    String same = "of(0,5) = -1; of(1,5) = -1; of(2,5) = 0; hang(0) = 4";
    e.edge("4 'a lesser number, or -1' its own number", three, "change(1,5,1) = BEYOND", same);
    e.edge("4 'a lesser number, or -1' a greater number", three, "change(1,5,2) = BEYOND", same);
    e.edge("4 'a lesser number, or -1' no such DEED", three, "change(2,5,3) = BEYOND", same);
    e.edge("4 'a lesser number, or -1' below -1", three, "change(2,5,-2) = BEYOND", same);
    e.edge("4 'a lesser number, or -1' the first DEED has none lesser", three, "change(0,5,0) = BEYOND", same);
    e.edge("4 'a lesser number, or -1' the least int", three, "change(2,5,MIN) = BEYOND", same);
    e.edge("4 'a lesser number, or -1' the greatest int", three, "change(2,5,MAX) = BEYOND", same);
    e.edge("4 'a lesser number, or -1' the greatest lesser", three, "change(2,5,1) = 0", "of(2,5) = 1; hang(1) = 4; hang(0) = 0");
    e.edge("4 'a lesser number, or -1' the least lesser", three, "change(1,5,0) = -1", "of(1,5) = 0; hang(0) = 6");
    e.edge("4 'a lesser number, or -1' none any more", three, "change(2,5,-1) = 0", "of(2,5) = -1; hang(0) = 0");
    e.edge("4 'a lesser number, or -1' none, of the first DEED", three, "change(0,5,-1) = -1", "status(-1) = 0");
    e.edge("4 'a lesser number, or -1' of the eighth", EIGHT, "change(7,5,6) = -1", "of(7,5) = 6; hang(6) = 128");
  }

  private static void changeRefused(Edge e) {
    String one = "deed(1,2); ";
    String same = "of(0,0) = 1; of(0,1) = 2; of(0,2) = 40; of(0,3) = 0; of(0,4) = 0; of(0,5) = -1; count(1) = 1";
    e.edge("4 'BEYOND.' there are no DEEDS", "", "change(0,0,0) = BEYOND", "count(1) = 0; deed(1,1) = 0");
    e.edge("4 'BEYOND.' a DEED too small", one, "change(-1,0,0) = BEYOND", same);
    e.edge("4 'BEYOND.' a DEED too large", one, "change(1,0,0) = BEYOND", same);
    e.edge("4 'BEYOND.' a ninth DEED", EIGHT, "change(8,1,1) = BEYOND", "count(1) = 8; lie(1) = 130");
    e.edge("4 'BEYOND.' the least int for a DEED", one, "change(MIN,0,0) = BEYOND", same);
    e.edge("4 'BEYOND.' the greatest int for a DEED", one, "change(MAX,0,0) = BEYOND", same);
    e.edge("4 'BEYOND.' what too small", one, "change(0,-1,0) = BEYOND", same);
    e.edge("4 'BEYOND.' RUN (4) can't be changed to 0", one, "change(0,4,0) = BEYOND", same);
    e.edge("4 'BEYOND.' RUN (4) can't be changed to 1", one, "change(0,4,1) = BEYOND", same);
    e.edge("4 'BEYOND.' what too large", one, "change(0,6,0) = BEYOND", same);
    e.edge("4 'BEYOND.' what far too large", one, "change(0,10,0) = BEYOND", same);
    e.edge("4 'BEYOND.' the least int for what", one, "change(0,MIN,0) = BEYOND", same);
    e.edge("4 'BEYOND.' the greatest int for what", one, "change(0,MAX,0) = BEYOND", same);
  }

  private static void renew(Edge e) {
    String ran = "deed(0,0); deed(0,0); change(0,3,50); change(1,3,50); hours(1); ";
    e.edge("5 'BEYOND.' there are no DEEDS", "", "renew(0) = BEYOND", "count(1) = 0");
    e.edge("5 'BEYOND.' a DEED too small", ran, "renew(-1) = BEYOND", "now(2) = 3; now(3) = 98");
    e.edge("5 'BEYOND.' a DEED too large", ran, "renew(2) = BEYOND", "now(2) = 3; now(3) = 98");
    e.edge("5 'BEYOND.' a ninth DEED", EIGHT + "change(0,3,9); ", "renew(8) = BEYOND", "now(3) = 9");
    e.edge("5 'BEYOND.' the least int", ran, "renew(MIN) = BEYOND", "now(2) = 3; now(3) = 98");
    e.edge("5 'BEYOND.' the greatest int", ran, "renew(MAX) = BEYOND", "now(2) = 3; now(3) = 98");
    e.edge("5 'whether it had (1, 0)' it had", ran, "renew(1) = 1", "of(1,4) = 0; of(1,3) = 0; now(2) = 1; renew(1) = 0");
    e.edge("5 'whether it had (1, 0)' it hadn't", "deed(0,0); change(0,3,50); ", "renew(0) = 0", "of(0,3) = 0; hours(1) = 0; now(2) = 0");
    e.edge("5 'whether it had (1, 0)' as new as can be", "deed(0,0); ", "renew(0) = 0", "of(0,3) = 0; of(0,4) = 0");
    e.edge("5 'SOFT is 0' of the eighth, 99 SOFT", EIGHT + "change(7,3,99); ", "renew(7) = 0", "of(7,3) = 0; now(3) = 0");
  }

  private static void shelf(Edge e) {
    String some = "shelf(3,0,1); shelf(3,1,7); shelf(3,2,1); ";
    String same = "count(3) = 8; count(4) = 7; heat(3,13) = 27; heat(0,0) = 15";
    e.edge("6 'BEYOND.' a SHELF too small", some, "shelf(-1,0,1) = BEYOND", same);
    e.edge("6 'BEYOND.' a SHELF too large", some, "shelf(6,0,1) = BEYOND", same);
    e.edge("6 'BEYOND.' ICE of a SHELF too large", some, "shelf(6,1,1) = BEYOND", same);
    e.edge("6 'BEYOND.' a CANDLE of a SHELF too small", some, "shelf(-1,2,1) = BEYOND", same);
    e.edge("6 'BEYOND.' the least int for a SHELF", some, "shelf(MIN,0,1) = BEYOND", same);
    e.edge("6 'BEYOND.' the greatest int for a SHELF", some, "shelf(MAX,1,1) = BEYOND", same);
    e.edge("6 'BEYOND.' what too small", some, "shelf(3,-1,1) = BEYOND", same);
    e.edge("6 'BEYOND.' what too large", some, "shelf(3,3,1) = BEYOND", same);
    e.edge("6 'BEYOND.' the least int for what", some, "shelf(3,MIN,1) = BEYOND", same);
    e.edge("6 'BEYOND.' the greatest int for what", some, "shelf(3,MAX,0) = BEYOND", same);
    e.edge("6 'SHUTTER open (1, 0)' above 1", some, "shelf(3,0,2) = BEYOND", same);
    e.edge("6 'SHUTTER open (1, 0)' below 0", some, "shelf(3,0,-1) = BEYOND", same);
    e.edge("6 'SHUTTER open (1, 0)' the greatest int", some, "shelf(3,0,MAX) = BEYOND", same);
    e.edge("6 'SHUTTER open (1, 0)' the least int", some, "shelf(3,0,MIN) = BEYOND", same);
    e.edge("6 'SHUTTER open (1, 0)' open as it is", some, "shelf(3,0,1) = 1", same);
    e.edge("6 'SHUTTER open (1, 0)' shut", some, "shelf(3,0,0) = 1", "count(3) = 0; shelf(3,0,0) = 0");
    e.edge("6 'SHUTTER open (1, 0)' of the last SHELF", some, "shelf(5,0,1) = 0", "count(3) = 40; shelf(5,0,1) = 1");
    e.edge("6 'ICE (0 to 99 blocks; 0 at first)' too little", some, "shelf(3,1,-1) = BEYOND", same);
    e.edge("6 'ICE (0 to 99 blocks; 0 at first)' too much", some, "shelf(3,1,100) = BEYOND", same);
    e.edge("6 'ICE (0 to 99 blocks; 0 at first)' the least int", some, "shelf(3,1,MIN) = BEYOND", same);
    e.edge("6 'ICE (0 to 99 blocks; 0 at first)' the greatest int", some, "shelf(3,1,MAX) = BEYOND", same);
    e.edge("6 'ICE (0 to 99 blocks; 0 at first)' the least", some, "shelf(3,1,0) = 7", "count(4) = 0; heat(3,0) = 9");
    e.edge("6 'ICE (0 to 99 blocks; 0 at first)' the most", some, "shelf(3,1,99) = 7", "count(4) = 99; shelf(3,1,0) = 99");
    e.edge("6 '2 CANDLE (1, 0)' above 1", some, "shelf(3,2,2) = BEYOND", same);
    e.edge("6 '2 CANDLE (1, 0)' below 0", some, "shelf(3,2,-1) = BEYOND", same);
    e.edge("6 '2 CANDLE (1, 0)' the greatest int", some, "shelf(3,2,MAX) = BEYOND", same);
    e.edge("6 '2 CANDLE (1, 0)' here as it is", some, "shelf(3,2,1) = 1", same);
    e.edge("6 '2 CANDLE (1, 0)' gone", some, "shelf(3,2,0) = 1", "heat(3,0) = -13; shelf(3,2,1) = 0");
  }

  private static void summer(Edge e) {
    String some = "summer(20); ";
    String same = "count(2) = 20; now(6) = 20; heat(0,0) = 20";
    e.edge("7 'BEYOND.' too small", some, "summer(-1) = BEYOND", same);
    e.edge("7 'BEYOND.' too large", some, "summer(41) = BEYOND", same);
    e.edge("7 'BEYOND.' the least int", some, "summer(MIN) = BEYOND", same);
    e.edge("7 'BEYOND.' the greatest int", some, "summer(MAX) = BEYOND", same);
    e.edge("7 'SUMMER (0 to 40; 15 at first)' the least", some, "summer(0) = 20", "count(2) = 0; heat(0,0) = 0");
    e.edge("7 'SUMMER (0 to 40; 15 at first)' the greatest", some, "summer(40) = 20", "count(2) = 40; heat(0,0) = 40");
  }

  private static void sun(Edge e) {
    String same = "now(0) = 0; sun(13) = 28";
    e.edge("8 'BEYOND.' an HOUR too small", "", "sun(-1) = BEYOND", same);
    e.edge("8 'BEYOND.' an HOUR too large", "", "sun(10000) = BEYOND", same);
    e.edge("8 'BEYOND.' the least int", "", "sun(MIN) = BEYOND", same);
    e.edge("8 'BEYOND.' the greatest int", "", "sun(MAX) = BEYOND", same);
    e.edge("8 'an HOUR (0 to 9999)' the first", "", "sun(0) = 0", same);
    e.edge("8 'an HOUR (0 to 9999)' the last: 15 by its rest", "", "sun(9999) = 20", same);
    e.edge("8 '0 ahead of 6 and from 20 on' 5", "", "sun(5) = 0", same);
    e.edge("8 '0 ahead of 6 and from 20 on' 6 has 28 less 28", "", "sun(6) = 0", same);
    e.edge("8 '0 ahead of 6 and from 20 on' 7", "", "sun(7) = 4", same);
    e.edge("8 '28, less 4 for each hour that it is from 13' just then", "", "sun(13) = 28", same);
    e.edge("8 '28, less 4 for each hour that it is from 13' an hour ahead", "", "sun(12) = 24", same);
    e.edge("8 '28, less 4 for each hour that it is from 13' an hour behind", "", "sun(14) = 24", same);
    e.edge("8 '0 ahead of 6 and from 20 on' 19", "", "sun(19) = 4", same);
    e.edge("8 '0 ahead of 6 and from 20 on' 20", "", "sun(20) = 0", same);
    e.edge("8 '0 ahead of 6 and from 20 on' 21", "", "sun(21) = 0", same);
    e.edge("8 '0 ahead of 6 and from 20 on' 23", "", "sun(23) = 0", same);
    e.edge("8 'by its rest by 24' a new day", "", "sun(24) = 0", same);
    e.edge("8 'by its rest by 24' the next noon", "", "sun(37) = 28", same);
    e.edge("8 'by its rest by 24' the last noon", "", "sun(9997) = 28", same);
  }

  private static void heat(Edge e) {
    String same = "heat(0,0) = 15; heat(5,0) = -15; now(0) = 0";
    e.edge("9 'BEYOND.' a SHELF too small", "", "heat(-1,0) = BEYOND", same);
    e.edge("9 'BEYOND.' a SHELF too large", "", "heat(6,0) = BEYOND", same);
    e.edge("9 'BEYOND.' the least int for a SHELF", "", "heat(MIN,0) = BEYOND", same);
    e.edge("9 'BEYOND.' the greatest int for a SHELF", "", "heat(MAX,0) = BEYOND", same);
    e.edge("9 'BEYOND.' an HOUR too small", "", "heat(0,-1) = BEYOND", same);
    e.edge("9 'BEYOND.' an HOUR too large", "", "heat(0,10000) = BEYOND", same);
    e.edge("9 'BEYOND.' the least int for an HOUR", "", "heat(0,MIN) = BEYOND", same);
    e.edge("9 'BEYOND.' the greatest int for an HOUR", "", "heat(0,MAX) = BEYOND", same);
    e.edge("9 'an HOUR (0 to 9999), as it is' the first", "", "heat(0,0) = 15", same);
    e.edge("9 'an HOUR (0 to 9999), as it is' the last", "", "heat(0,9999) = 25", same);
    e.edge("9 'an HOUR (0 to 9999), as it is' the ICE of now, however late", "say[summer 40; ice 0 1]; ", "heat(0,9999) = 40", "heat(0,0) = 30");
    e.edge("9 '6 less for each SHELF above it' none above the topmost", "summer(0); ", "heat(0,0) = 0", "heat(1,0) = -6");
    e.edge("9 '6 less for each SHELF above it' five above the last", "summer(0); ", "heat(5,0) = -30", "heat(4,0) = -24");
    e.edge("9 '10 less, if it has ICE' one block", "shelf(0,1,1); ", "heat(0,0) = 5", "heat(1,0) = 9");
    e.edge("9 '10 less, if it has ICE' 99 blocks", "shelf(0,1,99); ", "heat(0,0) = 5", "heat(1,0) = 9");
    e.edge("9 '10 less, if it has ICE' 0 blocks are none", "shelf(0,1,9); shelf(0,1,0); ", "heat(0,0) = 15", "heat(1,0) = 9");
    e.edge("9 'HEAT of a SHELF at an HOUR' the highest", "say[summer 40; shutter 0 open; candle 0 here]; ", "heat(0,13) = 80", "heat(0,0) = 52");
    e.edge("9 'HEAT of a SHELF at an HOUR' the lowest is no finding", "say[summer 0; ice 5 1]; ", "heat(5,0) = -40", "status(-1) = 0");
    e.edge("9 'half of SUN (all of it, if its SHUTTER is open)' of 4", "", "heat(0,7) = 17", "shelf(0,0,1) = 0; heat(0,7) = 19");
  }

  private static void lie(Edge e) {
    String same = "lie(0) = 65; lie(5) = 32; lie(1) = 130";
    e.edge("10 'BEYOND.' too small", EIGHT, "lie(-1) = BEYOND", same);
    e.edge("10 'BEYOND.' too large", EIGHT, "lie(6) = BEYOND", same);
    e.edge("10 'BEYOND.' the least int", EIGHT, "lie(MIN) = BEYOND", same);
    e.edge("10 'BEYOND.' the greatest int", EIGHT, "lie(MAX) = BEYOND", same);
    e.edge("10 'DEEDS on a SHELF, as a set' the topmost SHELF", EIGHT, "lie(0) = 65", same);
    e.edge("10 'DEEDS on a SHELF, as a set' the last SHELF", EIGHT, "lie(5) = 32", same);
    e.edge("10 'DEEDS on a SHELF, as a set' an empty SHELF", "deed(0,0); ", "lie(1) = 0", "lie(0) = 1");
    e.edge("10 'DEEDS on a SHELF, as a set' all eight on one", CHAIN, "lie(0) = 255", "lie(1) = 0");
  }
}
