/** The edges of promises 45 to 49, a case for each sentence that names one. */
public final class ImagesEdgesTest {
  private static final String EIGHT = "say[deed 0; deed 0; deed 0; deed 0; deed 0; deed 0; deed 0; deed 0]; ";
  private static final String SOME =
      "say[deed 2 wax 9; copy 3 on 0; ice 1 7; shutter 4 open; candle 5 here; summer 6]; seed(8); hold(9,1); change(1,3,4); hours(1); ";
  private static final String SPOILT =
      "days(1); say[deed 0; ice 1 0; shutter 4 shut; candle 5 gone; summer 40]; change(0,0,1); change(0,1,0); change(0,2,1); change(1,5,-1); renew(0); hold(9,0); hold(0,2); hours(50); ";
  private static final String AS_KEPT =
      "count(0) = 1; count(1) = 2; count(2) = 6; count(3) = 16; count(4) = 7; count(6) = 8; count(7) = 1; as(9,3) = 1; heat(5,0) = -12; of(0,0) = 0; of(0,1) = 2; of(0,2) = 9; of(1,3) = 3; of(1,5) = 0; of(2,0) = BEYOND";

  public static void main(String[] args) {
    Edge edge = new Edge("images edges");
    cases(edge);
    edge.end();
  }

  static void cases(Edge e) {
    image(e);
    undo(e);
    tear(e);
    countRefused(e);
    countLimits(e);
    status(e);
    statusOfEach(e);
  }

  private static void image(Edge e) {
    e.edge("45 'All but THE TAPE and SHEETS is kept: 1.' a new object", "", "image() = 1", "deed(0,0) = 0; hours(5) = 0; undo() = 0; count(1) = 0; count(0) = 0; deed(6,5) = 0; of(0,0) = 6");
    e.edge("45 'All but THE TAPE and SHEETS is kept: 1.' as full as can be", EIGHT + "say[summer 40; ice 0 99]; at[9999]; ", "image() = 1", "renew(0) = 1; shelf(0,1,5) = 0; undo() = 9999; now(2) = 255; count(4) = 0; count(1) = 8");
    e.edge("45 'All but THE TAPE and SHEETS is kept: 1.' nothing changes", SOME, "image() = 1", AS_KEPT);
    e.edge("45 'All but THE TAPE and SHEETS is kept: 1.' again: the later is kept", SOME + "image(); " + "change(0,2,77); ", "image() = 1", "change(0,2,78) = 77; undo() = 1; of(0,2) = 77");
    e.edge("45 'All but THE TAPE and SHEETS is kept: 1.' THE TAPE isn't", "tape[summer]; ", "image() = 1", "feed(8243,2) = 8; undo() = 0; count(5) = 8; text() = 1; count(2) = 3");
    e.edge("45 'All but THE TAPE and SHEETS is kept: 1.' an emptied TAPE isn't filled again", "tape[summer]; ", "image() = 1", "wipe() = 6; undo() = 0; count(5) = 0");
    e.edge("45 'All but THE TAPE and SHEETS is kept: 1.' SHEETS aren't", "deed(0,0); sheet(0,8,1); write(0,0,7); ", "image() = 1", "write(0,0,9) = 1; undo() = 0; load(0) = 1; of(0,2) = 9");
    e.edge("45 'All but THE TAPE and SHEETS is kept: 1.' a sheet that came to be stays", "image(); ", "image() = 1", "sheet(0,8,1) = 1; undo() = 0; load(0) = 0");
    e.edge("45 'All but THE TAPE and SHEETS is kept: 1.' a sheet that is MISSING then stays so", "sheet(0,8,1); ", "image() = 1", "sheet(0,0,0) = 0; undo() = 0; load(0) = MISSING");
    e.edge("45 'All but THE TAPE and SHEETS is kept: 1.' z and SPOTS are", "deed(0,0); hold(0,0); seed(MIN); ", "image() = 1", "seed(3) = MIN; hold(0,-1) = 1; undo() = 0; count(6) = MIN; as(0,0) = 0");
    e.edge("45 'All but THE TAPE and SHEETS is kept: 1.' RUN and SOFT are", "deed(0,0); change(0,3,50); hours(1); ", "image() = 1", "renew(0) = 1; undo() = 1; of(0,4) = 1; of(0,3) = 49");
  }

  private static void undo(Edge e) {
    e.edge("46 'NONE: nothing is kept' at first", SOME, "undo() = NONE", AS_KEPT);
    e.edge("46 'NONE: nothing is kept' torn", SOME + "image(); tear(); ", "undo() = NONE", AS_KEPT);
    e.edge("46 'NONE: nothing is kept' torn behind an undo()", SOME + "image(); undo(); tear(); ", "undo() = NONE", AS_KEPT);
    e.edge("46 'NONE: nothing is kept' kept anew", SOME + "image(); tear(); image(); " + SPOILT, "undo() = 1", AS_KEPT);
    e.edge("46 '(which stays)' once", SOME + "image(); " + SPOILT, "undo() = 1", AS_KEPT);
    e.edge("46 '(which stays)' twice", SOME + "image(); " + SPOILT + "undo(); " + SPOILT, "undo() = 1", AS_KEPT);
    e.edge("46 '(which stays)' thrice at once", SOME + "image(); " + SPOILT + "undo(); undo(); ", "undo() = 1", AS_KEPT);
    e.edge("46 'what was kept latest' of two", SOME + "image(); change(0,2,50); hours(2); image(); " + SPOILT, "undo() = 3", "of(0,2) = 50; undo() = 3; of(0,2) = 50");
    e.edge("46 'what was kept latest' nothing has changed since", SOME + "image(); ", "undo() = 1", AS_KEPT);
    e.edge("46 'HOUR' the first", "image(); hours(100); ", "undo() = 0", "now(0) = 0");
    e.edge("46 'HOUR' the last", "at[9999]; image(); ", "undo() = 9999", "hours(1) = STATE");
    e.edge("46 'HOUR' from the last back", "image(); at[9999]; ", "undo() = 0", "now(0) = 0; hours(100) = 0");
    e.edge("46 'It becomes what was kept latest' from eight DEEDS to none", "image(); " + EIGHT, "undo() = 0", "count(1) = 0; lie(0) = 0; of(0,0) = BEYOND; deed(3,3) = 0; of(0,0) = 3; of(0,2) = 40");
    e.edge("46 'It becomes what was kept latest' a DEED made then is as new", "image(); deed(0,0); change(0,3,99); hours(1); undo(); ", "undo() = 0", "deed(1,1) = 0; of(0,3) = 0; of(0,4) = 0; of(0,5) = -1; now(1) = 1");
  }

  private static void tear(Edge e) {
    e.edge("47 '1 if something was, else 0' nothing, at first", SOME, "tear() = 0", AS_KEPT);
    e.edge("47 '1 if something was, else 0' something", SOME + "image(); ", "tear() = 1", "tear() = 0; undo() = NONE; " + AS_KEPT);
    e.edge("47 '1 if something was, else 0' nothing any more", SOME + "image(); tear(); ", "tear() = 0", "undo() = NONE; " + AS_KEPT);
    e.edge("47 '1 if something was, else 0' two images are torn at once", "image(); image(); ", "tear() = 1", "tear() = 0; undo() = NONE");
    e.edge("47 '1 if something was, else 0' behind undo(), which takes nothing away", "image(); undo(); ", "tear() = 1", "undo() = NONE");
    e.edge("47 '1 if something was, else 0' kept anew", "image(); tear(); image(); ", "tear() = 1", "tear() = 0");
  }

  private static void countRefused(Edge e) {
    e.edge("48 'BEYOND: another what.' too small", SOME, "count(-1) = BEYOND", AS_KEPT);
    e.edge("48 'BEYOND: another what.' too large", SOME, "count(8) = BEYOND", AS_KEPT);
    e.edge("48 'BEYOND: another what.' the least int", SOME, "count(MIN) = BEYOND", AS_KEPT);
    e.edge("48 'BEYOND: another what.' the greatest int", SOME, "count(MAX) = BEYOND", AS_KEPT);
  }

  private static void countLimits(Edge e) {
    String filled = "hold(0,0); hold(1,0); hold(2,0); hold(3,0); hold(4,0); hold(5,0); hold(6,0); hold(7,0); hold(8,0); hold(9,0); ";
    e.edge("48 '0 HOUR' the last", "at[9999]; ", "count(0) = 9999", "now(0) = 9999");
    e.edge("48 '1 DEEDS' none", "", "count(1) = 0", "deed(0,0) = 0; count(1) = 1");
    e.edge("48 '1 DEEDS' eight", EIGHT, "count(1) = 8", "deed(0,0) = FULL; count(1) = 8");
    e.edge("48 '2 SUMMER' the least", "summer(0); ", "count(2) = 0", "now(6) = 0");
    e.edge("48 '2 SUMMER' the greatest", "summer(40); ", "count(2) = 40", "now(6) = 40");
    e.edge("48 '3 SHUTTERS open, as a set' none", "", "count(3) = 0", "shelf(5,0,0) = 0");
    e.edge("48 '3 SHUTTERS open, as a set' the last", "shelf(5,0,1); ", "count(3) = 32", "shelf(5,0,0) = 1; count(3) = 0");
    e.edge("48 '3 SHUTTERS open, as a set' all", "shelf(0,0,1); shelf(1,0,1); shelf(2,0,1); shelf(3,0,1); shelf(4,0,1); shelf(5,0,1); ", "count(3) = 63", "shelf(0,0,0) = 1; count(3) = 62");
    e.edge("48 '4 ICE of all' none", "", "count(4) = 0", "now(4) = 0");
    e.edge("48 '4 ICE of all' the most", "say[ice 0 99; ice 1 99; ice 2 99; ice 3 99; ice 4 99; ice 5 99]; ", "count(4) = 594", "now(4) = 594");
    e.edge("48 '5 bytes of THE TAPE' none", "", "count(5) = 0", "wipe() = 0");
    e.edge("48 '5 bytes of THE TAPE' all 120", "tape[" + "x".repeat(120) + "]; ", "count(5) = 120", "wipe() = 120; count(5) = 0");
    e.edge("48 '6 z' the least int", "seed(MIN); ", "count(6) = MIN", "status(-1) = 0");
    e.edge("48 '6 z' the greatest int", "seed(MAX); ", "count(6) = MAX", "status(-1) = 0");
    e.edge("48 '7 SPOTS that hold something' none", "deed(0,0); hold(0,-1); ", "count(7) = 0", "as(0,0) = MISSING");
    e.edge("48 '7 SPOTS that hold something' all ten", "deed(0,0); " + filled, "count(7) = 10", "hold(9,-1) = 1; count(7) = 9");
  }

  private static void status(Edge e) {
    String counted = "status(0) = 1; status(-1) = 1; status(6) = 0";
    e.edge("49 'BEYOND (counted from then on): another one' too small", "", "status(-2) = BEYOND", counted);
    e.edge("49 'BEYOND (counted from then on): another one' too large", "", "status(7) = BEYOND", counted);
    e.edge("49 'BEYOND (counted from then on): another one' the least int", "", "status(MIN) = BEYOND", counted);
    e.edge("49 'BEYOND (counted from then on): another one' the greatest int", "", "status(MAX) = BEYOND", counted);
    e.edge("49 'BEYOND (counted from then on): another one' one finding's own number", "", "status(-1000001) = BEYOND", counted);
    e.edge("49 'BEYOND (counted from then on): another one' twice", "status(7) = BEYOND; ", "status(7) = BEYOND", "status(0) = 2; status(-1) = 2");
    e.edge("49 'How many acts answered a finding ever' none", SOME, "status(-1) = 0", "status(0) = 0; status(6) = 0");
    e.edge("49 'How many acts answered a finding ever' no FAULT is one", "text(); ", "status(-1) = 0", "tape[x]; text() = -1; status(-1) = 0");
    e.edge("49 'How many acts answered a finding ever' 300 of them",
        "of(0,0) = BEYOND; ".repeat(300), "status(-1) = 300", "status(0) = 300; status(1) = 0");
    e.edge("49 '(undo() takes none back)' told ahead of image() and behind it", "of(0,0) = BEYOND; image(); undo(); of(0,0) = BEYOND; key() = NONE; undo(); ", "status(-1) = 3", "status(0) = 2; status(3) = 1");
    e.edge("49 '(undo() takes none back)' undo()'s own", "undo() = NONE; image(); undo(); ", "status(3) = 1", "status(-1) = 1");
  }

  private static void statusOfEach(Edge e) {
    String one = "of(9,9) = BEYOND; " + EIGHT + "deed(0,0) = FULL; hold(0,0); as(0,1) = KIND; undo() = NONE; began() = STATE; load(0) = MISSING; sheet(0,8,-1) = SIZE; ";
    String[] words = {"BEYOND", "FULL", "KIND", "NONE", "STATE", "MISSING", "SIZE"};
    String[] more = {"of(9,9) = BEYOND; ", "deed(0,0) = FULL; ", "as(0,1) = KIND; ", "undo() = NONE; ", "began() = STATE; ", "load(0) = MISSING; ", "sheet(0,8,-1) = SIZE; "};
    e.edge("49 'which -1: all, 0 to 6: BEYOND to SIZE' all seven", one, "status(-1) = 7", "status(0) = 1; status(1) = 1; status(2) = 1; status(3) = 1; status(4) = 1; status(5) = 1; status(6) = 1");
    for (int which = 0; which < words.length; which++) {
      e.edge("49 'which -1: all, 0 to 6: BEYOND to SIZE' " + words[which] + ", of all seven twice", one + more[which], "status(" + which + ") = 2", "status(-1) = 8");
    }
  }
}
