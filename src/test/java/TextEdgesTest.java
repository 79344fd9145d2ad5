/** The edges of promises 35 to 37, a case for each sentence that names one. */
public final class TextEdgesTest {
  private static final String EIGHT = "say[deed 0; deed 0; deed 0; deed 0; deed 0; deed 0; deed 0; deed 0]; ";
  private static final String TEN = "          ";
  private static final String HUNDRED = TEN + TEN + TEN + TEN + TEN + TEN + TEN + TEN + TEN + TEN;
  /** What stays behind a FAULT, and that the next TEXT is read as if nothing had been. */
  private static final String STAYS =
      "count(5) = 0; status(-1) = 0; count(1) = 1; count(2) = 15; count(3) = 0; count(4) = 0; heat(0,0) = 15; tape[summer 3]; text() = 1; count(2) = 3";

  public static void main(String[] args) {
    Edge edge = new Edge("text edges");
    cases(edge);
    edge.end();
  }

  static void cases(Edge e) {
    feedRefused(e);
    feedLimits(e);
    wipe(e);
    numbers(e);
    numbersOfOthers(e);
    words(e);
    nothingBegins(e);
    tooEarly(e);
    ninth(e);
    items(e);
  }

  private static void feedRefused(Edge e) {
    String some = "tape[summer ]; ";
    String stays = "count(5) = 7; feed(51,1) = 8; text() = 1; count(2) = 3";
    e.edge("35 'BEYOND: n.' none", some, "feed(51,0) = BEYOND", stays);
    e.edge("35 'BEYOND: n.' below 0", some, "feed(51,-1) = BEYOND", stays);
    e.edge("35 'BEYOND: n.' too many", some, "feed(51,5) = BEYOND", stays);
    e.edge("35 'BEYOND: n.' the least int", some, "feed(51,MIN) = BEYOND", stays);
    e.edge("35 'BEYOND: n.' the greatest int", some, "feed(51,MAX) = BEYOND", stays);
    String full = "tape[summer 3" + HUNDRED + TEN + "; ";
    String left3 = full.replace("; ", "]; ");
    // 118 bytes: 8 of words, 110 blanks.
    e.edge("35 'FULL.' 3 where 2 fit", left3, "feed(0,3) = FULL", "count(5) = 118; feed(538976288,2) = 120; wipe() = 120");
    e.edge("35 'FULL.' 4 where 2 fit", left3, "feed(0,4) = FULL", "count(5) = 118; feed(538976288,1) = 119; feed(0,2) = FULL");
    e.edge("35 'FULL.' 2 where 1 fits", left3 + "feed(32,1); ", "feed(0,2) = FULL", "count(5) = 119; feed(32,1) = 120");
    e.edge("35 'FULL.' 1 where none fits", left3 + "feed(538976288,2); ", "feed(0,1) = FULL", "count(5) = 120; feed(0,4) = FULL; wipe() = 120; feed(0,4) = 4");
    e.edge("35 'Each act tells its findings in the order in which they are asked' BEYOND ahead of FULL", left3 + "feed(538976288,2); ", "feed(0,5) = BEYOND", "status(1) = 0; feed(0,1) = FULL");
    e.edge("35 'Each act tells its findings in the order in which they are asked' BEYOND ahead of FULL, none", left3 + "feed(538976288,2); ", "feed(0,0) = BEYOND", "status(1) = 0; count(5) = 120");
  }

  private static void feedLimits(Edge e) {
    e.edge("35 '(n 1 to 4)' the fewest", "", "feed(1936551277,1) = 1", "count(5) = 1; text() = -1");
    e.edge("35 '(n 1 to 4)' the most", "", "feed(-1,4) = 4", "count(5) = 4; text() = -1");
    e.edge("35 'bytes, at most 120' just 120 by 4", "tape[" + HUNDRED + TEN + "ice 0 ]; ", "feed(540621088,4) = 120", "count(5) = 120; feed(0,1) = FULL");
    e.edge("35 'bytes, at most 120' just 120 by 1", "tape[" + HUNDRED + TEN + "         ]; ", "feed(32,1) = 120", "count(5) = 120; feed(0,1) = FULL");
    // The number is "xsum", and then "mer " and so on: of the first but the lowest three bytes come.
    e.edge("35 'the n lowest bytes of a number behind it, the highest of these first' three of four", "", "feed(2020832621,3) = 3", "feed(1835364896,4) = 7; feed(57,1) = 8; text() = 1; count(2) = 9");
    e.edge("35 'the n lowest bytes of a number behind it, the highest of these first' one of four", "tape[su]; ", "feed(2020832621,1) = 3", "feed(1835364896,4) = 7; feed(57,1) = 8; text() = 1; count(2) = 9");
    e.edge("35 'the n lowest bytes of a number behind it, the highest of these first' two of four", "tape[s]; ", "feed(2020832621,2) = 3", "feed(1835364896,4) = 7; feed(57,1) = 8; text() = 1; count(2) = 9");
    e.edge("35 'the n lowest bytes of a number behind it, the highest of these first' of a number below 0", "tape[summer ]; ", "feed(-2147483593,1) = 8", "text() = 1; count(2) = 7");
  }

  private static void wipe(Edge e) {
    e.edge("36 'THE TAPE is empty: how many it had' it was empty", "", "wipe() = 0", "count(5) = 0; text() = -1");
    e.edge("36 'THE TAPE is empty: how many it had' it was full", "tape[" + HUNDRED + TEN + TEN + "]; ", "wipe() = 120", "count(5) = 0; feed(0,4) = 4");
    e.edge("36 'THE TAPE is empty: how many it had' it had one byte", "feed(120,1); ", "wipe() = 1", "count(5) = 0; wipe() = 0; tape[summer 3]; text() = 1; count(2) = 3");
    e.edge("36 'THE TAPE is empty: how many it had' it was a TEXT", "tape[summer 3]; text(); ", "wipe() = 0", "count(2) = 3");
    e.edge("36 'THE TAPE is empty: how many it had' it was none", "tape[summer x]; text(); ", "wipe() = 0", "count(2) = 15");
  }

  /** A text of one item with a fault, behind which all is as ahead of it. */
  private static void fault(Edge e, String sentence, String which, String text, int place) {
    e.edge("37 '" + sentence + "' " + which + ": " + text, "say[deed 0]; tape[" + text + "]; ", "text() = " + (-1 - place), STAYS);
  }

  private static void numbers(Edge e) {
    String shelf = "a NUMBER (0 to 5: SHELF)";
    for (String word : new String[] {"deed", "double", "tallow", "copy", "stacked", "buried", "false"}) {
      fault(e, shelf, "too large", word + " 6", word.length() + 1);
    }
    fault(e, shelf, "far too large", "deed 999", 5);
    fault(e, "NUMBERS (digits, 999 at most)", "more", "deed 1000", 5);
    fault(e, "NUMBERS (digits, 999 at most)", "it wraps around to 0", "deed 4294967296", 5);
    fault(e, "NUMBERS (digits, 999 at most)", "as long as it can be on THE TAPE", "deed 9" + "9999999999".repeat(11), 5);
    e.edge("37 '" + shelf + "' the least", "tape[deed 0]; ", "text() = 1", "of(0,1) = 0");
    e.edge("37 '" + shelf + "' the greatest", "tape[false 5]; ", "text() = 1", "of(0,1) = 5; of(0,0) = 6");
    fault(e, "perhaps wax and a NUMBER (1 to 99)", "too small", "deed 0 wax 0", 11);
    fault(e, "perhaps wax and a NUMBER (1 to 99)", "too large", "deed 0 wax 100", 11);
    fault(e, "perhaps wax and a NUMBER (1 to 99)", "far too large", "deed 0 wax 1001", 11);
    fault(e, "perhaps wax and a NUMBER (1 to 99)", "it wraps around to 1", "deed 0 wax 4294967297", 11);
    e.edge("37 'perhaps wax and a NUMBER (1 to 99)' the least", "tape[deed 0 wax 1]; ", "text() = 1", "of(0,2) = 1");
    e.edge("37 'perhaps wax and a NUMBER (1 to 99)' the greatest", "tape[deed 0 wax 99]; ", "text() = 1", "of(0,2) = 99");
    e.edge("37 'perhaps wax and a NUMBER (1 to 99)' not told: as at first", "tape[deed 0]; ", "text() = 1", "of(0,2) = 40");
    fault(e, "perhaps on and a NUMBER (a DEED there by then)", "itself", "deed 0 on 1", 10);
    fault(e, "perhaps on and a NUMBER (a DEED there by then)", "one there but later", "deed 0 on 1; deed 0", 10);
    fault(e, "perhaps on and a NUMBER (a DEED there by then)", "far too large", "deed 0 on 999", 10);
    e.edge("37 'perhaps on and a NUMBER (a DEED there by then)' none is there", "tape[deed 0 on 0]; ", "text() = -11", "count(1) = 0; count(5) = 0; status(-1) = 0");
    e.edge("37 'perhaps on and a NUMBER (a DEED there by then)' the least", EIGHT.replace("; deed 0]", "]") + "tape[deed 0 on 0]; ", "text() = 1", "of(7,5) = 0");
    e.edge("37 'perhaps on and a NUMBER (a DEED there by then)' the greatest", EIGHT.replace("; deed 0]", "]") + "tape[deed 0 on 6]; ", "text() = 1", "of(7,5) = 6");
    e.edge("37 'perhaps on and a NUMBER (a DEED there by then)' one of this TEXT", "tape[deed 0;deed 1 on 0]; ", "text() = 2", "of(1,5) = 0");
    e.edge("37 'perhaps on and a NUMBER (a DEED there by then)' not told: on none", "deed(0,0); tape[deed 0]; ", "text() = 1", "of(1,5) = -1");
  }

  private static void numbersOfOthers(Edge e) {
    fault(e, "shutter, a NUMBER (0 to 5), open or shut", "too large", "shutter 6 open", 8);
    e.edge("37 'shutter, a NUMBER (0 to 5), open or shut' the least", "tape[shutter 0 open]; ", "text() = 1", "count(3) = 1");
    e.edge("37 'shutter, a NUMBER (0 to 5), open or shut' the greatest", "tape[shutter 5 open]; ", "text() = 1", "count(3) = 32");
    e.edge("37 'shutter, a NUMBER (0 to 5), open or shut' shut as it is", "tape[shutter 5 shut]; ", "text() = 1", "count(3) = 0");
    fault(e, "ice, a NUMBER (0 to 5), a NUMBER (0 to 99)", "too large a SHELF", "ice 6 1", 4);
    fault(e, "ice, a NUMBER (0 to 5), a NUMBER (0 to 99)", "too much", "ice 0 100", 6);
    fault(e, "ice, a NUMBER (0 to 5), a NUMBER (0 to 99)", "it wraps around to 0", "ice 0 4294967296", 6);
    e.edge("37 'ice, a NUMBER (0 to 5), a NUMBER (0 to 99)' the least", "shelf(0,1,9); tape[ice 0 0]; ", "text() = 1", "count(4) = 0");
    e.edge("37 'ice, a NUMBER (0 to 5), a NUMBER (0 to 99)' the most", "tape[ice 5 99]; ", "text() = 1", "count(4) = 99; heat(5,0) = -25");
    e.edge("37 'ice, a NUMBER (0 to 5), a NUMBER (0 to 99)' it isn't added", "shelf(0,1,60); tape[ice 0 60]; ", "text() = 1", "count(4) = 60");
    fault(e, "candle, a NUMBER (0 to 5), here or gone", "too large", "candle 6 here", 7);
    e.edge("37 'candle, a NUMBER (0 to 5), here or gone' the least", "tape[candle 0 here]; ", "text() = 1", "heat(0,0) = 27");
    e.edge("37 'candle, a NUMBER (0 to 5), here or gone' the greatest", "tape[candle 5 here]; ", "text() = 1", "heat(5,0) = -3");
    e.edge("37 'candle, a NUMBER (0 to 5), here or gone' gone as it is", "tape[candle 5 gone]; ", "text() = 1", "heat(5,0) = -15");
    fault(e, "summer and a NUMBER (0 to 40)", "too large", "summer 41", 7);
    fault(e, "summer and a NUMBER (0 to 40)", "far too large", "summer 4040", 7);
    fault(e, "summer and a NUMBER (0 to 40)", "it wraps around to 40", "summer 4294967336", 7);
    e.edge("37 'summer and a NUMBER (0 to 40)' the least", "tape[summer 0]; ", "text() = 1", "count(2) = 0");
    e.edge("37 'summer and a NUMBER (0 to 40)' the greatest", "tape[summer 40]; ", "text() = 1", "count(2) = 40");
  }

  private static void words(Edge e) {
    String other = "a NUMBER that isn't as told, another WORD";
    String[] first = {"wax 5", "on 0", "open", "shut", "here", "gone", "dee 0", "deeds 0", "a", "zzz"};
    for (String text : first) {
      fault(e, other, "no ITEM begins so", text, 0);
    }
    fault(e, other, "a NUMBER begins no ITEM", "5", 0);
    for (String word : new String[] {"deed", "double", "tallow", "copy", "stacked", "buried", "false", "shutter", "ice", "candle", "summer"}) {
      fault(e, other, "but its first letter is", "x" + word.substring(1) + " 0", 0);
      fault(e, other, "but its last letter is", word.substring(0, word.length() - 1) + "x 0", 0);
    }
    fault(e, other, "but its first letter is", "deed 0 xax 5", 7);
    fault(e, other, "but its first letter is", "deed 0 xn 0", 7);
    fault(e, other, "but its first letter is", "shutter 0 xpen", 10);
    fault(e, other, "but its first letter is", "shutter 0 xhut", 10);
    fault(e, other, "but its first letter is", "candle 0 xere", 9);
    fault(e, other, "but its first letter is", "candle 0 xone", 9);
    fault(e, "WORDS (letters a to z)", "with a behind it", "deeda 0", 0);
    fault(e, "WORDS (letters a to z)", "with z behind it", "deedz 0", 0);
    fault(e, other, "a SIGN begins no ITEM", ";", 0);
    fault(e, other, "a WORD for a SHELF", "deed wax 5", 5);
    fault(e, other, "a SIGN for a SHELF", "deed;deed 0", 4);
    fault(e, other, "a WORD for WAX", "deed 0 wax on 0", 11);
    fault(e, other, "a SIGN for WAX", "deed 0 wax;", 10);
    fault(e, other, "a WORD for what it HANGS ON", "deed 0 on deed", 10);
    fault(e, other, "a NUMBER too many", "deed 0 0", 7);
    fault(e, other, "wax behind on", "deed 0 on 0 wax 5", 12);
    fault(e, other, "wax twice", "deed 0 wax 5 wax 5", 13);
    fault(e, other, "on twice", "deed 0 on 0 on 0", 12);
    fault(e, other, "no SIGN between", "deed 0 deed 0", 7);
    fault(e, other, "two SIGNS between", "deed 0;;deed 0", 7);
    fault(e, other, "a WORD for a SHUTTER", "shutter open", 8);
    fault(e, other, "a NUMBER for open or shut", "shutter 0 1", 10);
    fault(e, other, "here for open or shut", "shutter 0 here", 10);
    fault(e, other, "open and shut", "shutter 0 open shut", 15);
    fault(e, other, "a WORD for ICE", "ice 0 gone", 6);
    fault(e, other, "a SIGN for ICE", "ice 0;", 5);
    fault(e, other, "a NUMBER too many for ICE", "ice 0 1 1", 8);
    fault(e, other, "open for a CANDLE", "candle 0 open", 9);
    fault(e, other, "a NUMBER for a CANDLE", "candle 0 1", 9);
    fault(e, other, "a WORD for a CANDLE's SHELF", "candle here", 7);
    fault(e, other, "a WORD for ICE's SHELF", "ice here 5", 4);
    fault(e, other, "here and gone", "candle 0 here gone", 14);
    fault(e, other, "a WORD for SUMMER", "summer shut", 7);
    fault(e, other, "a NUMBER too many for SUMMER", "summer 4 0", 9);
    fault(e, "each as long as can be", "a WORD runs on into the next", "deed 0 waxon", 7);
    fault(e, "each as long as can be", "opens is not open", "shutter 0 opens", 10);
    e.edge("37 'each as long as can be' where a WORD ends a NUMBER may begin", "tape[deed0wax99]; ", "text() = 1", "of(0,1) = 0; of(0,2) = 99");
    e.edge("37 'blanks may stand between' many", "tape[deed    0    wax   9   ;   summer   4]; ", "text() = 2", "of(0,2) = 9; count(2) = 4");
  }

  private static void nothingBegins(Edge e) {
    String none = "a byte that begins no TOKEN";
    fault(e, none, "first", "!deed 0", 0);
    fault(e, none, "a great letter", "Deed 0", 0);
    fault(e, none, "behind a WORD", "deed! 0", 4);
    fault(e, none, "within a WORD", "de-ed 0", 0);
    fault(e, none, "a sign ahead of a NUMBER", "summer -1", 7);
    fault(e, none, "last", "deed 0 ,", 7);
    fault(e, none, "the byte ahead of a", "deed 0`", 6);
    fault(e, none, "the byte behind z", "deed 0{", 6);
    fault(e, none, "the byte ahead of 0", "deed 0/", 6);
    fault(e, none, "the byte behind 9, ahead of the SIGN", "deed 0:", 6);
    fault(e, none, "the byte behind the SIGN", "deed 0<", 6);
    fault(e, none, "byte 0", "deed 0\0", 6);
    fault(e, none, "byte 127", "deed 0\177", 6);
    fault(e, none, "byte 128", "deed 0\200", 6);
    fault(e, none, "byte 255", "deed 0\377", 6);
    fault(e, none, "the byte of a letter with 128 more", "deed 0;\345", 7);
  }

  private static void tooEarly(Edge e) {
    String early = "how many bytes there are if it ends too early";
    e.edge("37 '" + early + "' THE TAPE is empty", "", "text() = -1", "count(5) = 0; status(-1) = 0");
    e.edge("37 '" + early + "' it was read already", "tape[summer 3]; text(); ", "text() = -1", "count(2) = 3; status(-1) = 0");
    String[] texts = {"deed", "false", "deed 0 wax", "deed 0 on", "deed 0 wax 5 on", "deed 0;", "shutter", "shutter 0",
      "ice", "ice 0", "candle", "candle 0", "summer", "summer 1;", "ice 0 9;candle 0 here;shutter 0 open;deed"};
    for (String text : texts) {
      fault(e, early, "it ends behind", text, text.length());
    }
    String full = "deed 0" + HUNDRED + TEN + ";ice";
    fault(e, early, "of 120 bytes", full, 120);
    e.edge("37 'THE TAPE (bytes, at most 120)' a TEXT of 120 bytes", "tape[deed 0" + HUNDRED + "   ;summer 40]; ", "text() = 2", "count(1) = 1; count(2) = 40; count(5) = 0");
  }

  private static void ninth(Edge e) {
    String word = "the WORD of a 9th DEED: its own";
    e.edge("37 '" + word + "' alone", EIGHT + "tape[deed 0]; ", "text() = -1", "count(1) = 8; count(5) = 0; status(-1) = 0");
    e.edge("37 '" + word + "' though its NUMBER can't stand either", EIGHT + "tape[false 9]; ", "text() = -1", "count(1) = 8; status(-1) = 0");
    e.edge("37 '" + word + "' though it ends too early, too", EIGHT + "tape[copy]; ", "text() = -1", "count(1) = 8; status(-1) = 0");
    e.edge("37 '" + word + "' behind another ITEM", EIGHT + "tape[summer 1;copy 0]; ", "text() = -10", "count(1) = 8; count(2) = 15; status(-1) = 0");
    e.edge("37 '" + word + "' behind the eighth", EIGHT.replace("; deed 0]", "]") + "tape[deed 1;deed 2]; ", "text() = -8", "count(1) = 7; lie(1) = 0; deed(0,1) = 7");
    e.edge("37 '" + word + "' the eighth stands", EIGHT.replace("; deed 0]", "]") + "tape[deed 1]; ", "text() = 1", "count(1) = 8; lie(1) = 128; deed(0,0) = FULL");
    e.edge("37 '" + word + "' eight in one TEXT", "tape[deed 0;deed 0;deed 0;deed 0;deed 0;deed 0;deed 0;deed 0]; ", "text() = 8", "count(1) = 8");
    e.edge("37 '" + word + "' nine in one TEXT", "tape[deed 0;deed 0;deed 0;deed 0;deed 0;deed 0;deed 0;deed 0;deed 0]; ", "text() = -57", "count(1) = 0; deed(0,0) = 0");
    e.edge("37 '" + word + "' others stand with eight", EIGHT + "tape[summer 1;ice 0 4;shutter 0 open;candle 0 here]; ", "text() = 4", "count(2) = 1; count(4) = 4; count(3) = 1");
  }

  private static void items(Edge e) {
    String nothing = "nothing changes but that THE TAPE is empty; no finding";
    fault(e, nothing, "of each sort an ITEM ahead", "deed 0 on 0;ice 0 9;summer 3;shutter 0 open;candle 0 here;x", 58);
    e.edge("37 '" + nothing + "' what was told by calls stays", "say[deed 2 wax 9]; shelf(1,1,7); shelf(1,0,1); shelf(1,2,1); summer(4); seed(6); hold(3,0); at[2]; tape[ice 1 0;shutter 1 shut;candle 1 gone;summer 0;deed 0;y]; ",
        "text() = -54", "count(0) = 2; count(1) = 1; count(2) = 4; count(3) = 2; count(4) = 7; count(5) = 0; count(6) = 6; count(7) = 1; heat(1,0) = 0; of(0,2) = 9");
    e.edge("37 'item by item' one", "tape[ice 0 7]; ", "text() = 1", "count(4) = 7");
    e.edge("37 'item by item' the later counts", "tape[ice 0 7;ice 0 8;summer 1;summer 2;shutter 0 open;shutter 0 shut;candle 0 here;candle 0 gone]; ", "text() = 8", "count(4) = 8; count(2) = 2; count(3) = 0; heat(0,0) = -8");
    e.edge("37 'how many ITEMS' as many as THE TAPE takes",
        "tape[ice0 0;ice0 1;ice0 2;ice0 3;ice0 4;ice0 5;ice0 6;ice0 7;ice0 8;ice0 9;ice1 0;ice1 1;ice1 2;ice1 3;ice1 4;ice1 5;ice1 10]; ", "text() = 17", "count(4) = 19; count(5) = 0");
    e.edge("37 'THE TAPE is a TEXT, and empty then' what comes then is read anew", "tape[summer 3]; text(); tape[ice 0 4]; ", "text() = 1", "count(4) = 4; count(2) = 3");
  }
}
