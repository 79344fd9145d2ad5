/** Promises 45 to 49: images, counts, status. */
public final class ImagesTest {
  private static final Check check = new Check("images");

  public static void main(String[] args) {
    imageAndUndo();
    notKept();
    tear();
    count();
    status();
    check.end();
  }

  private static WaxTreaties full() {
    WaxTreaties x = Check.made("deed 0 wax 12;copy 3 on 0;ice 1 4;candle 2 here;shutter 3 open;summer 9");
    x.seed(5);
    x.hold(2, 1);
    x.hours(3);
    x.change(0, 3, 30);
    x.hours(1);
    return x;
  }

  /** All that is asked of it in one number a row. */
  private static int[] told(WaxTreaties x) {
    int[] told = new int[8 + 7 + 20 + 12 + 10];
    int n = 0;
    for (int what = 0; what < 8; what++) {
      told[n++] = what == 5 ? 0 : x.count(what);
    }
    for (int what = 0; what < 7; what++) {
      told[n++] = x.now(what);
    }
    for (int d = 0; d < 2; d++) {
      for (int what = 0; what < 10; what++) {
        told[n++] = x.of(d, what);
      }
    }
    for (int s = 0; s < 6; s++) {
      told[n++] = x.heat(s, 13);
      told[n++] = x.heat(s, 0);
    }
    for (int spot = 0; spot < 10; spot++) {
      told[n++] = x.as(spot, 0);
    }
    return told;
  }

  private static void same(String what, int[] got, int[] want) {
    for (int i = 0; i < want.length; i++) {
      check.due(what + ", row " + i, got[i], want[i]);
    }
  }

  private static void spoil(WaxTreaties x) {
    x.days(2);
    Check.read(x, "deed 1;ice 1 50;ice 5 1;candle 2 gone;candle 0 here;shutter 0 open;summer 33");
    for (int what = 0; what < 4; what++) {
      x.change(1, what, 4);
    }
    x.change(1, 5, -1);
    x.renew(0);
    x.hold(2, 0);
    x.hold(9, 2);
    x.seed(1234);
  }

  private static void imageAndUndo() {
    WaxTreaties x = full();
    check.due("46: nothing kept", x.undo(), Check.NONE);
    int[] before = told(x);
    check.due("45: image()", x.image(), 1);
    same("45: nothing changes", told(x), before);
    spoil(x);
    check.that("it is another", told(x)[0] != before[0] && x.count(1) == 3);
    check.due("46: undo()", x.undo(), 4);
    same("46: as kept", told(x), before);
    check.due("46: no third deed", x.of(2, 0), Check.BEYOND);
    spoil(x);
    check.due("46: it stays", x.undo(), 4);
    same("46: as kept again", told(x), before);
    x.hours(7);
    int[] later = told(x);
    check.due("45: a later one", x.image(), 1);
    spoil(x);
    check.due("46: the latest", x.undo(), 11);
    same("46: as kept last", told(x), later);
    check.due("46: the latest alone", x.undo(), 11);
    WaxTreaties y = new WaxTreaties();
    y.image();
    y.deed(0, 0);
    check.due("46: to the first", y.undo(), 0);
    check.due("46: no deeds", y.count(1), 0);
    check.due("46: a new one is as new", y.deed(6, 5), 0);
    check.due("46: its wax", y.of(0, 2), 40);
    // A deed made anew in place of one undone isn't run, soft or hanging.
    y.image();
    y.deed(0, 0);
    y.change(1, 5, 0);
    y.change(1, 3, 99);
    y.hours(1);
    y.undo();
    check.due("46: its number again", y.deed(1, 1), 1);
    check.due("46: hangs on none", y.of(1, 5), -1);
    check.due("46: not soft", y.of(1, 3), 0);
    check.due("46: not run", y.of(1, 4), 0);
  }

  private static void notKept() {
    WaxTreaties x = full();
    x.sheet(0, 8, 2);
    x.write(0, 0, 7);
    Check.feed(x, "summ");
    x.image();
    x.write(0, 0, 8);
    x.write(0, 1, 9);
    Check.feed(x, "er 3");
    x.of(-1, 0);
    check.due("46: undo()", x.undo(), 4);
    check.due("46: the tape isn't kept", x.count(5), 8);
    check.due("46: it reads", x.text(), 1);
    check.due("46: summer 3", x.count(2), 3);
    check.due("46: sheets aren't kept", x.load(0), 2);
    check.due("46: wax 8", x.of(0, 2), 8);
    check.due("46: wax 9", x.of(1, 2), 9);
    check.due("46: status isn't taken back", x.status(0), 1);
    x.sheet(0, 0, 0);
    x.undo();
    check.due("46: a sheet stays missing", x.load(0), Check.MISSING);
  }

  private static void tear() {
    WaxTreaties x = full();
    check.due("47: nothing kept", x.tear(), 0);
    x.image();
    x.image();
    check.due("47: something", x.tear(), 1);
    check.due("47: nothing more", x.tear(), 0);
    check.due("47: undo()", x.undo(), Check.NONE);
    check.due("47: nothing changes", x.count(0), 4);
    x.image();
    check.due("47: kept anew", x.undo(), 4);
    check.due("47: it stayed", x.tear(), 1);
  }

  private static void count() {
    WaxTreaties x = full();
    x.feed(0, 3);
    x.shelf(5, 1, 99);
    int[] due = {4, 2, 9, 8, 103, 3, 5, 1};
    for (int what = 0; what < due.length; what++) {
      check.due("48: count(" + what + ")", x.count(what), due[what]);
    }
    check.due("48: count(8)", x.count(8), Check.BEYOND);
    check.due("48: count(-1)", x.count(-1), Check.BEYOND);
  }

  private static void status() {
    WaxTreaties x = new WaxTreaties();
    x.sheet(0, 8, 1);
    x.sheet(1, 16, 1);
    x.deed(0, 0);
    x.deed(1, 0);
    x.hold(0, 0);
    int[] acts = {3, 1, 2, 5, 4, 6, 7};
    for (int i = 0; i < acts[0]; i++) {
      x.of(9, 9);
    }
    for (int d = 2; d < 8 + acts[1]; d++) {
      x.deed(0, 0);
    }
    for (int i = 0; i < acts[2]; i++) {
      x.as(0, 5);
    }
    for (int i = 0; i < acts[3]; i++) {
      x.undo();
    }
    for (int i = 0; i < acts[4]; i++) {
      x.began();
    }
    for (int i = 0; i < acts[5]; i++) {
      x.load(2);
    }
    for (int i = 0; i < acts[6]; i++) {
      x.sheet(0, 8, -1);
    }
    for (int which = 0; which < 7; which++) {
      check.due("49: status(" + which + ")", x.status(which), acts[which]);
    }
    check.due("49: all", x.status(-1), 28);
    check.due("49: status(7)", x.status(7), Check.BEYOND);
    check.due("49: status(-2)", x.status(-2), Check.BEYOND);
    check.due("49: counted from then on", x.status(0), 5);
    check.due("49: all", x.status(-1), 30);
    check.due("49: a negative heat is none", x.heat(5, 0), -15);
    check.due("49: no fault is", x.text(), -1);
    check.due("49: all", x.status(-1), 30);
    x.image();
    x.of(9, 9);
    x.undo();
    check.due("49: undo() takes none back", x.status(0), 6);
    check.due("49: all", x.status(-1), 31);
  }
}
