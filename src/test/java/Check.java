/** Counts and prints what isn't as due, and ends a test's main. */
final class Check {
  static final int BEYOND = -1000001;
  static final int FULL = -1000002;
  static final int KIND = -1000003;
  static final int NONE = -1000004;
  static final int STATE = -1000005;
  static final int MISSING = -1000006;
  static final int SIZE = -1000007;

  private final String name;
  private int asked = 0;
  private int wrong = 0;

  Check(String name) {
    this.name = name;
  }

  void due(String call, int got, int want) {
    asked++;
    if (got != want) {
      wrong++;
      System.out.println(name + ": " + call + " answered " + got + ", due is " + want);
    }
  }

  void that(String what, boolean isSo) {
    asked++;
    if (!isSo) {
      wrong++;
      System.out.println(name + ": not so: " + what);
    }
  }

  void end() {
    System.out.println(name + ": " + asked + " asked, " + wrong + " wrong");
    if (wrong != 0 || asked == 0) {
      System.exit(1);
    }
  }

  /** Feeds a text's characters as bytes, four at once as far as they go. */
  static void feed(WaxTreaties x, String text) {
    for (int i = 0; i < text.length(); i += 4) {
      int n = Math.min(4, text.length() - i);
      int bytes = 0;
      for (int j = 0; j < n; j++) {
        bytes = bytes << 8 | text.charAt(i + j) & 255;
      }
      x.feed(bytes, n);
    }
  }

  /** What text() answers for a text. */
  static int read(WaxTreaties x, String text) {
    feed(x, text);
    return x.text();
  }

  /** A new chancery from items without a fault, each read by itself: together they may be too long. */
  static WaxTreaties made(String text) {
    WaxTreaties x = new WaxTreaties();
    for (String item : text.split(";")) {
      if (read(x, item) != 1) {
        throw new IllegalStateException("fault in: " + item);
      }
    }
    return x;
  }

  /** A new chancery, so many hours on. */
  static WaxTreaties at(int hour) {
    WaxTreaties x = new WaxTreaties();
    pass(x, hour);
    return x;
  }

  static void pass(WaxTreaties x, int hours) {
    for (int left = hours; left > 0; left -= 100) {
      x.hours(Math.min(100, left));
    }
  }
}
