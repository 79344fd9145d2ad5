/** Promises 35 to 37: the tape and the text on it. */
public final class TextTest {
  private static final Check check = new Check("text");

  public static void main(String[] args) {
    feed();
    wipe();
    items();
    itemByItem();
    tokens();
    faults();
    numbersAsTold();
    tooEarly();
    ninth();
    changesNothing();
    check.end();
  }

  private static void feed() {
    WaxTreaties x = new WaxTreaties();
    check.due("35: feed(0, 0)", x.feed(0, 0), Check.BEYOND);
    check.due("35: feed(0, 5)", x.feed(0, 5), Check.BEYOND);
    check.due("35: feed(0, -1)", x.feed(0, -1), Check.BEYOND);
    check.due("35: sum", x.feed(0x41737500 | 'm', 2), 2);
    x.wipe();
    // The highest of the lowest bytes first, the others left out.
    check.due("35: 3 lowest", x.feed('x' << 24 | 's' << 16 | 'u' << 8 | 'm', 3), 3);
    check.due("35: 1 lowest", x.feed('x' << 8 | 'm', 1), 4);
    check.due("35: 4", x.feed('e' << 24 | 'r' << 16 | ' ' << 8 | '3', 4), 8);
    check.due("35: 1", x.feed('9', 1), 9);
    check.due("35: count(5)", x.count(5), 9);
    check.due("35: summer 39", x.text(), 1);
    check.due("35: summer 39", x.count(2), 39);
    for (int had = 0; had < 116; had += 4) {
      check.due("35: feed", x.feed(0x20202020, 4), had + 4);
    }
    check.due("35: to 119", x.feed(0x202020, 3), 119);
    check.due("35: 2 more", x.feed(0, 2), Check.FULL);
    check.due("35: 4 more", x.feed(0, 4), Check.FULL);
    check.due("35: beyond first", x.feed(0, 5), Check.BEYOND);
    check.due("35: nothing changes", x.count(5), 119);
    check.due("35: to 120", x.feed(' ', 1), 120);
    check.due("35: 1 more", x.feed(0, 1), Check.FULL);
    check.due("35: full", x.wipe(), 120);
  }

  private static void wipe() {
    WaxTreaties x = new WaxTreaties();
    check.due("36: empty", x.wipe(), 0);
    Check.feed(x, "nothing");
    check.due("36: seven", x.wipe(), 7);
    check.due("36: none", x.count(5), 0);
    check.due("36: begins anew", Check.read(x, "summer 1"), 1);
    check.due("36: empty by text()", x.wipe(), 0);
    Check.feed(x, "summer x");
    x.text();
    check.due("36: empty by a fault", x.wipe(), 0);
  }

  private static void items() {
    WaxTreaties x = new WaxTreaties();
    String[] words = {"deed", "double", "tallow", "copy", "stacked", "buried", "false"};
    for (int kind = 0; kind < 7; kind++) {
      check.due("37: " + words[kind], Check.read(x, words[kind] + " " + kind % 6), 1);
      check.due("37: kind", x.of(kind, 0), kind);
      check.due("37: shelf", x.of(kind, 1), kind % 6);
      check.due("37: wax", x.of(kind, 2), 40);
      check.due("37: soft", x.of(kind, 3), 0);
      check.due("37: run", x.of(kind, 4), 0);
      check.due("37: hangs on", x.of(kind, 5), -1);
    }
    check.due("37: with both", Check.read(x, "tallow 4 wax 99 on 6"), 1);
    int[] due = {2, 4, 99, 0, 0, 6};
    for (int what = 0; what < due.length; what++) {
      check.due("37: of(7, " + what + ")", x.of(7, what), due[what]);
    }
    check.due("37: shutter open", Check.read(x, "shutter 5 open"), 1);
    check.due("37: open", x.count(3), 32);
    check.due("37: shutter open again", Check.read(x, "shutter 5 open;shutter 0 open"), 2);
    check.due("37: shutter shut", Check.read(x, "shutter 5 shut"), 1);
    check.due("37: open", x.count(3), 1);
    check.due("37: ice", Check.read(x, "ice 5 99;ice 0 1"), 2);
    check.due("37: ice of all", x.count(4), 100);
    check.due("37: no ice", Check.read(x, "ice 5 0"), 1);
    check.due("37: ice of all", x.count(4), 1);
    check.due("37: candle here", Check.read(x, "candle 5 here"), 1);
    check.due("37: heat", x.heat(5, 0), -3);
    check.due("37: candle gone", Check.read(x, "candle 5 gone"), 1);
    check.due("37: heat", x.heat(5, 0), -15);
    check.due("37: summer", Check.read(x, "summer 40"), 1);
    check.due("37: summer", x.count(2), 40);
    check.due("37: summer 0", Check.read(x, "summer 0"), 1);
    check.due("37: summer 0", x.count(2), 0);
  }

  private static void itemByItem() {
    WaxTreaties x = new WaxTreaties();
    check.due("37: ten items", Check.read(x,
        "deed 0;deed 1 on 0;ice 2 5;ice 2 9;summer 7;summer 8;shutter 1 open;shutter 1 shut;candle 0 here;deed 0 on 1"), 10);
    check.due("37: the later counts", x.count(4), 9);
    check.due("37: the later counts", x.count(2), 8);
    check.due("37: the later counts", x.count(3), 0);
    check.due("37: of this text", x.of(2, 5), 1);
    check.due("37: hangs by steps", x.hang(0), 6);
    check.due("37: on one there before", Check.read(x, "copy 0 on 2"), 1);
    check.due("37: hangs on 2", x.of(3, 5), 2);
    WaxTreaties y = new WaxTreaties();
    check.due("37: what fits on the tape", Check.read(y,
        "ice0 0;ice0 1;ice0 2;ice0 3;ice0 4;ice0 5;ice0 6;ice0 7;ice0 8;ice0 9;ice1 0;ice1 1;ice1 2;ice1 3;ice1 4;ice1 5;ice1 10"), 17);
    check.due("37: the last ones", y.count(4), 19);
  }

  private static void tokens() {
    WaxTreaties x = new WaxTreaties();
    check.due("37: without blanks", Check.read(x, "deed0wax99;double5on0;summer40"), 3);
    check.due("37: with many", Check.read(x, "deed   0   wax   9   on  1  ;  ice  1  1"), 2);
    check.due("37: wax", x.of(2, 2), 9);
    check.due("37: on", x.of(2, 5), 1);
    check.due("37: noughts ahead", Check.read(x, "summer 017"), 1);
    check.due("37: summer", x.count(2), 17);
    check.due("37: as long as can be", Check.read(x, "deed0on000"), 1);
  }

  private static void fault(String text, int place) {
    WaxTreaties x = Check.made("deed 0");
    check.due("37: " + text, Check.read(x, text), -1 - place);
    check.due("37: deeds behind " + text, x.count(1), 1);
    check.due("37: tape behind " + text, x.count(5), 0);
  }

  private static void faults() {
    String[] texts = {
      "!deed 0", "! deed 0", "deed 0 !", "deed! 0", "Deed 0", "deeds 0", "dee 0", "deed0x", "deedx0",
      "wax 5", "on 0", "open", "here 0", "5", ";", "deed 0;;deed 0", "deed 0 deed 0", "deed deed",
      "deed;", "deed 0 wax;", "deed 0 wax on", "deed 0 on on", "deed 0 on 0 wax 5", "deed 0 wax 5 wax 5",
      "deed 0 on 0 on 0", "deed 0 0", "deed 0 wax 5 5", "deed 0 on 0 0", "deed 0 open", "shutter open",
      "shutter 0 0", "shutter 0 here", "shutter 0 gone", "shutter 0 opens", "shutter 0 open open",
      "ice ice", "ice 0 wax", "ice 0 0 0", "ice 0 0 deed", "candle here", "candle 0 open", "candle 0 0",
      "candle 0 here gone", "summer summer", "summer 1 1", "summer 1 deed", "summer -1", "deed 0,",
      "deed~0", "deed 0~", "deed\0", "deed \u00ff", "\u00e9", "deed 0;shutter 0 shut;x", "deed 0; 7"
    };
    int[] places = {
      0, 0, 7, 4, 0, 0, 0, 5, 0,
      0, 0, 0, 0, 0, 0, 7, 7, 5,
      4, 10, 11, 10, 12, 13,
      12, 7, 13, 12, 7, 8,
      10, 10, 10, 10, 15,
      4, 6, 8, 8, 7, 9, 9,
      14, 7, 9, 9, 7, 6,
      4, 6, 4, 5, 0, 22, 8
    };
    check.due("37: as many places", places.length, texts.length);
    for (int i = 0; i < texts.length; i++) {
      fault(texts[i], places[i]);
    }
  }

  private static void numbersAsTold() {
    String[] alike = {"xeed 0", "oeed 0", "xouble 0", "xallow 0", "xopy 0", "xtacked 0", "xuried 0", "xalse 0",
      "xhutter 0 open", "xce 0 0", "xandle 0 here", "xummer 0", "deed0 xax 5", "deed0 xn 0", "ice0x"};
    for (String text : alike) {
      fault(text, text.indexOf('x') < 0 ? 0 : text.indexOf('x'));
    }
    fault("deedz 0", 0);
    fault("deeda 0", 0);
    fault("shutter 0 xpen", 10);
    fault("shutter 0 xhut", 10);
    fault("candle 0 xere", 9);
    fault("candle 0 xone", 9);
    fault("deed 6", 5);
    fault("false 7", 6);
    fault("deed 10", 5);
    fault("deed 999", 5);
    fault("deed 4294967296", 5);
    fault("deed 42949672960", 5);
    fault("deed 0 wax 0", 11);
    fault("deed 0 wax 100", 11);
    fault("deed 0 wax 1000", 11);
    fault("deed 0 wax 4294967297", 11);
    fault("deed 0 wax 9999999999999999999", 11);
    fault("deed 0 on 1", 10);
    fault("deed 0 on 0;deed 0 on 2", 22);
    fault("deed 0 on 8", 10);
    fault("shutter 6 open", 8);
    fault("ice 6 0", 4);
    fault("ice 0 100", 6);
    fault("candle 6 here", 7);
    fault("summer 41", 7);
    fault("summer 041", 7);
    fault("summer 999", 7);
    fault("summer 1000", 7);
    WaxTreaties x = new WaxTreaties();
    check.due("37: on none there", Check.read(x, "deed 0 on 0"), -11);
    check.due("37: highest wax", Check.read(x, "deed 0 wax 99"), 1);
    check.due("37: lowest wax", Check.read(x, "deed 0 wax 1 on 0"), 1);
  }

  private static void tooEarly() {
    fault("", 0);
    fault("deed", 4);
    fault("deed 0 wax", 10);
    fault("deed 0 wax 5 on", 15);
    fault("deed 0 on", 9);
    fault("deed 0;", 7);
    fault("deed 0 ;", 8);
    fault("shutter", 7);
    fault("shutter 0", 9);
    fault("ice", 3);
    fault("ice 0", 5);
    fault("candle", 6);
    fault("candle 0", 8);
    fault("summer", 6);
    WaxTreaties x = new WaxTreaties();
    check.due("37: a fault is no finding", x.text(), -1);
    check.due("37: no finding counted", x.status(-1), 0);
  }

  private static void ninth() {
    WaxTreaties x = new WaxTreaties();
    check.due("37: eight", Check.read(x, "deed 0;deed 0;deed 0;deed 0;deed 0;deed 0;deed 0;deed 0 on 6"), 8);
    check.due("37: a ninth", Check.read(x, "summer 1; copy 9"), -11);
    check.due("37: nothing changes", x.count(2), 15);
    check.due("37: other items", Check.read(x, "summer 1"), 1);
    WaxTreaties y = Check.made("deed 1;deed 1;deed 1;deed 1;deed 1;deed 1;deed 1");
    check.due("37: a ninth in it", Check.read(y, "deed 0;ice 0 1;deed 0"), -16);
    check.due("37: nothing changes", y.count(1), 7);
    check.due("37: nothing changes", y.count(4), 0);
  }

  private static void changesNothing() {
    WaxTreaties x = Check.made("deed 0 wax 9;ice 1 4;summer 22");
    x.seed(77);
    x.hold(3, 0);
    x.hours(5);
    int soft = x.now(3);
    check.due("37: with a fault", Check.read(x, "deed 0;ice 1 9;summer 3;shutter 0 open;candle 0 here;y"), -54);
    check.due("37: deeds", x.count(1), 1);
    check.due("37: ice", x.count(4), 4);
    check.due("37: summer", x.count(2), 22);
    check.due("37: open", x.count(3), 0);
    check.due("37: heat", x.heat(0, 0), 22);
    check.due("37: without one", Check.read(x, "summer 3"), 1);
    check.due("37: hour", x.count(0), 5);
    check.due("37: z", x.count(6), 77);
    check.due("37: spots", x.as(3, 0), 0);
    check.due("37: soft", x.now(3), soft);
    check.due("37: run", x.now(2), 1);
  }
}
