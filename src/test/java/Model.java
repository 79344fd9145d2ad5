import java.util.ArrayList;
import java.util.List;
import java.util.function.Consumer;
import java.util.function.ToIntFunction;
import java.util.regex.Matcher;
import java.util.regex.Pattern;

/**
 * The document said once more, in another way and with no thought of cost: deeds are objects,
 * what would be is tried on whole copies, sets are gone through from the definition.
 */
final class Model {
  static final String[] WORDS = {"deed", "double", "tallow", "copy", "stacked", "buried", "false"};
  private static final int[] ABOVE = {-1, 0, 0, 2, 1, 0, 5};

  private static final class Deed {
    int kind;
    int shelf;
    int wax = 40;
    int soft = 0;
    boolean run = false;
    Deed on = null;

    Deed(int kind, int shelf) {
      this.kind = kind;
      this.shelf = shelf;
    }

    static int feels(int kind, int h) {
      return kind == 0 ? h : kind == 5 ? h * 2 / 3 : feels(ABOVE[kind], h) - (kind == 4 ? 4 : 0);
    }

    static int stands(int kind, int wax) {
      return kind == 0 ? wax : stands(ABOVE[kind], wax) - (kind == 2 ? 8 : kind == 6 ? 5 : 0);
    }

    static int runsAt(int kind) {
      return kind == 0 ? 10 : kind == 1 ? 2 * runsAt(0) : kind == 3 ? runsAt(2) / 2 : runsAt(ABOVE[kind]);
    }

    boolean holds() {
      return !run && (on == null || on.holds());
    }

    boolean hangsBySteps(Deed other) {
      return on != null && (on == other || on.hangsBySteps(other));
    }
  }

  private static final class World {
    List<Deed> deeds = new ArrayList<>();
    boolean[] open = new boolean[6];
    boolean[] candle = new boolean[6];
    int[] ice = new int[6];
    int hour = 0;
    int summer = 15;
    int z = 1;
    Integer[] spots = new Integer[10];

    World copy() {
      World w = new World();
      for (Deed d : deeds) {
        Deed e = new Deed(d.kind, d.shelf);
        e.wax = d.wax;
        e.soft = d.soft;
        e.run = d.run;
        e.on = d.on == null ? null : w.deeds.get(deeds.indexOf(d.on));
        w.deeds.add(e);
      }
      w.open = open.clone();
      w.candle = candle.clone();
      w.ice = ice.clone();
      w.hour = hour;
      w.summer = summer;
      w.z = z;
      w.spots = spots.clone();
      return w;
    }

    static int sun(int hour) {
      int r = hour % 24;
      return r < 6 || r >= 20 ? 0 : r < 13 ? 28 - 4 * (13 - r) : 28 - 4 * (r - 13);
    }

    int heat(int s, int hour) {
      return summer + sun(hour) / (open[s] ? 1 : 2) - 6 * s - (ice[s] > 0 ? 10 : 0) + (candle[s] ? 12 : 0);
    }

    int go(int hours) {
      int runs = 0;
      for (int i = 0; i < hours; i++) {
        int[] heats = new int[6];
        for (int s = 0; s < 6; s++) {
          heats[s] = heat(s, hour);
        }
        for (Deed d : deeds) {
          if (d.run) {
            continue;
          }
          int feels = Deed.feels(d.kind, heats[d.shelf]);
          int stands = Deed.stands(d.kind, d.wax);
          d.soft = feels > stands ? Math.min(99, d.soft + feels - stands) : Math.max(0, d.soft - 1);
          if (d.soft >= Deed.runsAt(d.kind)) {
            d.run = true;
            runs++;
            for (Deed e : deeds) {
              if (e.shelf == d.shelf + 1 && !e.run) {
                e.soft = Math.min(99, e.soft + 3);
              }
            }
          }
        }
        for (int s = 0; s < 6; s++) {
          if (heats[s] > 20) {
            ice[s] = Math.max(0, ice[s] - 1);
          }
        }
        hour++;
      }
      return runs;
    }

    World after(int hours) {
      World w = copy();
      w.go(hours);
      return w;
    }

    World with(Consumer<World> changed) {
      World w = copy();
      changed.accept(w);
      return w;
    }

    int holdsSet() {
      int set = 0;
      for (Deed d : deeds) {
        set += d.holds() ? 1 << deeds.indexOf(d) : 0;
      }
      return set;
    }

    int holding() {
      return Integer.bitCount(holdsSet());
    }

    int runSet() {
      int set = 0;
      for (Deed d : deeds) {
        set += d.run ? 1 << deeds.indexOf(d) : 0;
      }
      return set;
    }

    int ends(int deed) {
      for (int h = 0; h <= 100; h++) {
        if (!after(h).deeds.get(deed).holds()) {
          return h;
        }
      }
      return 101;
    }

    int shut() {
      int set = 0;
      for (int s = 0; s < 6; s++) {
        set += open[s] ? 0 : 1 << s;
      }
      return set;
    }

    World opened(int set) {
      return with(w -> {
        for (int s = 0; s < 6; s++) {
          w.open[s] |= (set >> s & 1) == 1;
        }
      });
    }

    int iceOfAll() {
      int sum = 0;
      for (int blocks : ice) {
        sum += blocks;
      }
      return sum;
    }
  }

  private static final class Finding extends RuntimeException {
    private static final long serialVersionUID = 1L;
    final int answer;

    Finding(int answer) {
      super(null, null, false, false);
      this.answer = answer;
    }
  }

  private World w = new World();
  private World kept = null;
  private String tape = "";
  private final int[][] sheets = new int[4][];
  private final int[] bits = new int[4];
  private final int[] findings = new int[7];

  /** What an act answers, by its name; what it finds is counted. */
  int call(String name, int[] a) {
    try {
      return act(name, a);
    } catch (Finding f) {
      findings[-1000001 - f.answer]++;
      return f.answer;
    }
  }

  private static void ask(boolean isFine, int finding) {
    if (!isFine) {
      throw new Finding(finding);
    }
  }

  private static void range(int v, int low, int high) {
    ask(v >= low && v <= high, Check.BEYOND);
  }

  private void isDeed(int deed) {
    range(deed, 0, w.deeds.size() - 1);
  }

  private void hoursFit(int h) {
    ask(w.hour + h <= 9999, Check.STATE);
  }

  private void hoursAhead(int h, int last) {
    range(h, 1, last);
    hoursFit(h);
  }

  private int act(String name, int[] a) {
    switch (name) {
      case "deed": return deed(a[0], a[1]);
      case "of": return of(a[0], a[1]);
      case "change": return change(a[0], a[1], a[2]);
      case "renew": return renew(a[0]);
      case "shelf": return shelf(a[0], a[1], a[2]);
      case "summer": return summer(a[0]);
      case "sun": range(a[0], 0, 9999); return World.sun(a[0]);
      case "heat": range(a[0], 0, 5); range(a[1], 0, 9999); return w.heat(a[0], a[1]);
      case "lie": return lie(a[0]);
      case "hours": hoursAhead(a[0], 100); return w.go(a[0]);
      case "now": return now(a[0]);
      case "ahead": return ahead(a[0], a[1]);
      case "ends": return ends(a[0]);
      case "soonest": return soonest();
      case "place": isDeed(a[0]); hoursFit(100); return first(6, s -> w.with(v -> v.deeds.get(a[0]).shelf = s).ends(a[0]));
      case "kindFor": isDeed(a[0]); hoursFit(100); return first(7, k -> w.with(v -> v.deeds.get(a[0]).kind = k).ends(a[0]));
      case "ice": range(a[0], 1, 99); hoursAhead(a[1], 100);
        return first(6, s -> w.with(v -> v.ice[s] = Math.min(99, v.ice[s] + a[0])).after(a[1]).holding());
      case "blocks": return blocks(a[0], a[1]);
      case "bears": return bears(a[0], a[1]);
      case "swap": return swap(a[0]);
      case "law": hoursAhead(a[0], 100);
        return first(7, k -> w.with(v -> v.deeds.forEach(d -> d.kind = k)).after(a[0]).holding());
      default: return act2(name, a);
    }
  }

  private int act2(String name, int[] a) {
    switch (name) {
      case "enemy": return enemy(a[0], a[1], false);
      case "worst": return enemy(a[0], a[1], true);
      case "least": return least(a[0], a[1]);
      case "nail": return nail(a[0]);
      case "hang": return hang(a[0]);
      case "falls": isDeed(a[0]); return falls(a[0]);
      case "war": return war();
      case "key": ask(!w.deeds.isEmpty(), Check.NONE); return first(w.deeds.size(), d -> Integer.bitCount(falls(d)));
      case "began": return began();
      case "opened": return opened(a[0], a[1]);
      case "days": return days(a[0]);
      case "seed": return seed(a[0]);
      case "feed": return feed(a[0], a[1]);
      case "wipe": return wipe();
      case "text": return text();
      case "hold": return hold(a[0], a[1]);
      case "as": return as(a[0], a[1]);
      case "sheet": return sheet(a[0], a[1], a[2]);
      case "write": return write(a[0], a[1], a[2]);
      case "copy": return copy(a[0], a[1], a[2], a[3], a[4]);
      case "load": return load(a[0]);
      case "judge": return judge(a[0], a[1]);
      case "image": kept = w.copy(); return 1;
      case "undo": ask(kept != null, Check.NONE); w = kept.copy(); return w.hour;
      case "tear": return tear();
      case "count": return count(a[0]);
      case "status": return status(a[0]);
      default: throw new IllegalStateException(name);
    }
  }

  /** The first with the most. */
  private static int first(int many, ToIntFunction<Integer> worth) {
    int best = 0;
    for (int i = 1; i < many; i++) {
      if (worth.applyAsInt(i) > worth.applyAsInt(best)) {
        best = i;
      }
    }
    return best;
  }

  private int deed(int kind, int shelf) {
    range(kind, 0, 6);
    range(shelf, 0, 5);
    ask(w.deeds.size() < 8, Check.FULL);
    w.deeds.add(new Deed(kind, shelf));
    return w.deeds.size() - 1;
  }

  private int of(int deed, int what) {
    isDeed(deed);
    range(what, 0, 9);
    Deed d = w.deeds.get(deed);
    int[] told = {
      d.kind, d.shelf, d.wax, d.soft, d.run ? 1 : 0, w.deeds.indexOf(d.on), Deed.stands(d.kind, d.wax),
      Deed.runsAt(d.kind), Deed.feels(d.kind, w.heat(d.shelf, w.hour)), d.holds() ? 1 : 0
    };
    return told[what];
  }

  private int change(int deed, int what, int v) {
    isDeed(deed);
    ask(what >= 0 && what <= 5 && what != 4, Check.BEYOND);
    int was = of(deed, what);
    Deed d = w.deeds.get(deed);
    switch (what) {
      case 0: range(v, 0, 6); d.kind = v; break;
      case 1: range(v, 0, 5); d.shelf = v; break;
      case 2: range(v, 1, 99); d.wax = v; break;
      case 3: range(v, 0, 99); d.soft = v; break;
      default: range(v, -1, deed - 1); d.on = v == -1 ? null : w.deeds.get(v);
    }
    return was;
  }

  private int renew(int deed) {
    isDeed(deed);
    int was = of(deed, 4);
    w.deeds.get(deed).run = false;
    w.deeds.get(deed).soft = 0;
    return was;
  }

  private int shelf(int s, int what, int v) {
    range(s, 0, 5);
    range(what, 0, 2);
    range(v, 0, what == 1 ? 99 : 1);
    int was = what == 1 ? w.ice[s] : (what == 0 ? w.open[s] : w.candle[s]) ? 1 : 0;
    if (what == 1) {
      w.ice[s] = v;
    } else {
      (what == 0 ? w.open : w.candle)[s] = v == 1;
    }
    return was;
  }

  private int summer(int v) {
    range(v, 0, 40);
    int was = w.summer;
    w.summer = v;
    return was;
  }

  private int lie(int s) {
    range(s, 0, 5);
    int set = 0;
    for (int d = 0; d < w.deeds.size(); d++) {
      set += w.deeds.get(d).shelf == s ? 1 << d : 0;
    }
    return set;
  }

  private int now(int what) {
    range(what, 0, 6);
    int soft = w.deeds.stream().mapToInt(d -> d.soft).sum();
    int[] told = {w.hour, w.holdsSet(), w.runSet(), soft, w.iceOfAll(), first(6, s -> w.heat(s, w.hour)), w.summer};
    return told[what];
  }

  private int ahead(int n, int what) {
    range(n, 0, 100);
    range(what, 0, w.deeds.size() + 2);
    hoursFit(n);
    World then = w.after(n);
    return what == 0 ? then.holdsSet() : what == 1 ? then.runSet() : what == 2 ? then.iceOfAll()
        : then.deeds.get(what - 3).soft;
  }

  private int ends(int deed) {
    isDeed(deed);
    hoursFit(100);
    int end = w.ends(deed);
    ask(end <= 100, Check.NONE);
    return end;
  }

  private int soonest() {
    hoursFit(100);
    ask(!w.deeds.isEmpty(), Check.NONE);
    int d = first(w.deeds.size(), e -> -w.ends(e));
    ask(w.ends(d) <= 100, Check.NONE);
    return d;
  }

  private int blocks(int deed, int h) {
    isDeed(deed);
    hoursAhead(h, 100);
    int s = w.deeds.get(deed).shelf;
    for (int n = 0; n <= 99; n++) {
      int blocks = n;
      if (w.with(v -> v.ice[s] = Math.min(99, v.ice[s] + blocks)).after(h).deeds.get(deed).holds()) {
        return n;
      }
    }
    throw new Finding(Check.NONE);
  }

  private int bears(int deed, int h) {
    isDeed(deed);
    hoursAhead(h, 100);
    int highest = Check.NONE;
    for (int n = 0; n <= 40; n++) {
      int summer = n;
      highest = w.with(v -> v.summer = summer).after(h).deeds.get(deed).holds() ? n : highest;
    }
    ask(highest >= 0, Check.NONE);
    return highest;
  }

  private int swap(int h) {
    hoursAhead(h, 100);
    int most = w.after(h).holding();
    int best = Check.NONE;
    for (int pair = 1; pair < 78; pair++) {
      int a = pair / 10;
      int b = pair % 10;
      if (a < b && b < w.deeds.size()) {
        World v = w.copy();
        v.deeds.get(a).shelf = w.deeds.get(b).shelf;
        v.deeds.get(b).shelf = w.deeds.get(a).shelf;
        if (v.after(h).holding() > most) {
          most = v.after(h).holding();
          best = pair;
        }
      }
    }
    ask(best >= 0, Check.NONE);
    return best;
  }

  private int enemy(int k, int h, boolean isWorst) {
    range(k, 0, 6);
    hoursAhead(h, 100);
    ask(Integer.bitCount(w.shut()) >= k, Check.NONE);
    int best = -1;
    int fewest = 99;
    for (int set = 0; set < 64; set++) {
      if ((set & ~w.shut()) == 0 && Integer.bitCount(set) == k && w.opened(set).after(h).holding() < fewest) {
        best = set;
        fewest = w.opened(set).after(h).holding();
      }
    }
    return isWorst ? fewest : best;
  }

  private int least(int deed, int h) {
    isDeed(deed);
    hoursAhead(h, 100);
    for (int k = 0; k <= 6; k++) {
      for (int set = 0; set < 64; set++) {
        if ((set & ~w.shut()) == 0 && Integer.bitCount(set) == k
            && !w.opened(set).after(h).deeds.get(deed).holds()) {
          return k;
        }
      }
    }
    throw new Finding(Check.NONE);
  }

  /** Not where a lesser set of shutters does it but all don't: the document doesn't say which counts. */
  boolean isLeastClear(int deed, int h) {
    if (deed < 0 || deed >= w.deeds.size() || h < 1 || h > 100 || w.hour + h > 9999
        || !w.opened(w.shut()).after(h).deeds.get(deed).holds()) {
      return true;
    }
    for (int set = 0; set < 64; set++) {
      if ((set & ~w.shut()) == 0 && !w.opened(set).after(h).deeds.get(deed).holds()) {
        return false;
      }
    }
    return true;
  }

  private int nail(int h) {
    hoursAhead(h, 100);
    ask(w.shut() != 0, Check.NONE);
    return first(6, s -> nailedWorst(s, h));
  }

  private int nailedWorst(int s, int h) {
    if (w.open[s]) {
      return -1;
    }
    int worst = 99;
    for (int t = 0; t < 6; t++) {
      if (t != s && !w.open[t]) {
        worst = Math.min(worst, w.opened(1 << t).after(h).holding());
      }
    }
    return worst == 99 ? w.after(h).holding() : worst;
  }

  private int hang(int deed) {
    isDeed(deed);
    int set = 0;
    for (int d = 0; d < w.deeds.size(); d++) {
      set += w.deeds.get(d).hangsBySteps(w.deeds.get(deed)) ? 1 << d : 0;
    }
    return set;
  }

  private int falls(int deed) {
    return w.holdsSet() & ~w.with(v -> v.deeds.get(deed).run = true).holdsSet();
  }

  private int war() {
    int fewest = 99;
    for (int set = 0; set < 1 << w.deeds.size(); set++) {
      int runs = set;
      World v = w.with(u -> u.deeds.forEach(d -> d.run |= (runs >> u.deeds.indexOf(d) & 1) == 1));
      if (v.holdsSet() == 0) {
        fewest = Math.min(fewest, Integer.bitCount(set));
      }
    }
    return fewest;
  }

  private int began() {
    ask(w.hour >= 24, Check.STATE);
    int set = 0;
    for (int h = 1; h <= 24; h++) {
      World v = w.copy();
      v.hour -= h;
      v.deeds.forEach(d -> d.soft = 0);
      v.deeds.forEach(d -> d.run = false);
      v.go(h);
      set += v.runSet() == w.runSet() ? 1 << h : 0;
    }
    return set;
  }

  private int opened(int set, int h) {
    range(set, 0, (1 << w.deeds.size()) - 1);
    hoursAhead(h, 24);
    int ways = 0;
    for (int way = 0; way < 64; way++) {
      World v = w.copy();
      v.open = new boolean[6];
      ways += v.opened(way).after(h).runSet() == set ? 1 : 0;
    }
    return ways;
  }

  private int draw() {
    w.z = (int) (w.z * 1103515245L + 12345L);
    return (int) ((w.z & 0xffffffffL) / 256);
  }

  private int days(int n) {
    range(n, 1, 12);
    hoursFit(24 * n);
    int runs = 0;
    for (int day = 0; day < n; day++) {
      w.summer = draw() % 41;
      int s = draw() % 6;
      w.open[s] = !w.open[s];
      runs += w.go(24);
    }
    return runs;
  }

  private int seed(int v) {
    int was = w.z;
    w.z = v;
    return was;
  }

  private int feed(int bytes, int n) {
    range(n, 1, 4);
    ask(tape.length() + n <= 120, Check.FULL);
    for (int i = 4 - n; i < 4; i++) {
      tape += (char) ((bytes << 8 * i) >>> 24);
    }
    return tape.length();
  }

  private int wipe() {
    int had = tape.length();
    tape = "";
    return had;
  }

  private static final Pattern TOKEN = Pattern.compile("[a-z]+|[0-9]+|;|[^ ]");

  /** Tokens are taken off a list; where one can't stand its place is thrown as a fault. */
  private int text() {
    String bytes = tape;
    tape = "";
    List<String> tokens = new ArrayList<>();
    List<Integer> places = new ArrayList<>();
    Matcher matcher = Pattern.compile(TOKEN.pattern(), Pattern.DOTALL).matcher(bytes);
    while (matcher.find()) {
      tokens.add(matcher.group());
      places.add(matcher.start());
    }
    tokens.add("");
    places.add(bytes.length());
    World before = w;
    w = before.copy();
    int items = 0;
    int at = 0;
    while (true) {
      int next = item(tokens, at);
      if (next > 0) {
        items++;
        if (tokens.get(next).isEmpty()) {
          return items;
        }
        at = next + 1;
        if (tokens.get(next).equals(";")) {
          continue;
        }
        next = -1 - next;
      }
      w = before;
      return -1 - places.get(-1 - next);
    }
  }

  /** The place behind an item that is done, or -1 less the place of the token that can't stand. */
  private int item(List<String> tokens, int from) {
    String word = tokens.get(from);
    int kind = List.of(WORDS).indexOf(word);
    int at = from + 1;
    if (kind >= 0) {
      if (w.deeds.size() == 8) {
        return -1 - from;
      }
      Deed d = new Deed(kind, 0);
      d.shelf = number(tokens.get(at), 0, 5);
      if (d.shelf < 0) {
        return -1 - at;
      }
      at++;
      if (tokens.get(at).equals("wax")) {
        d.wax = number(tokens.get(++at), 1, 99);
        if (d.wax < 0) {
          return -1 - at;
        }
        at++;
      }
      if (tokens.get(at).equals("on")) {
        int on = number(tokens.get(++at), 0, w.deeds.size() - 1);
        if (on < 0) {
          return -1 - at;
        }
        d.on = w.deeds.get(on);
        at++;
      }
      w.deeds.add(d);
      return at;
    }
    if (word.equals("summer")) {
      int v = number(tokens.get(at), 0, 40);
      w.summer = v;
      return v < 0 ? -1 - at : at + 1;
    }
    boolean isIce = word.equals("ice");
    boolean isShutter = word.equals("shutter");
    if (!isIce && !isShutter && !word.equals("candle")) {
      return -1 - from;
    }
    int s = number(tokens.get(at), 0, 5);
    if (s < 0) {
      return -1 - at;
    }
    String then = tokens.get(++at);
    if (isIce) {
      w.ice[s] = number(then, 0, 99);
      return w.ice[s] < 0 ? -1 - at : at + 1;
    }
    boolean isYes = then.equals(isShutter ? "open" : "here");
    if (!isYes && !then.equals(isShutter ? "shut" : "gone")) {
      return -1 - at;
    }
    (isShutter ? w.open : w.candle)[s] = isYes;
    return at + 1;
  }

  private static int number(String token, int low, int high) {
    if (!token.matches("[0-9]+") || !token.matches("0*[0-9]{1,3}")) {
      return -1;
    }
    int v = new java.math.BigInteger(token).intValue();
    return v >= low && v <= high ? v : -1;
  }

  private int hold(int spot, int deed) {
    range(spot, 0, 9);
    range(deed, -1, w.deeds.size() - 1);
    w.spots[spot] = deed == -1 ? null : (Integer) deed;
    return 1;
  }

  private int as(int spot, int kind) {
    range(spot, 0, 9);
    range(kind, 0, 6);
    ask(w.spots[spot] != null, Check.MISSING);
    int k = w.deeds.get(w.spots[spot]).kind;
    while (k != -1 && k != kind) {
      k = ABOVE[k];
    }
    ask(k != -1, Check.KIND);
    return w.spots[spot];
  }

  private int sheet(int s, int bitsOf, int n) {
    range(s, 0, 3);
    ask(List.of(0, 8, 16, 32).contains(bitsOf), Check.BEYOND);
    ask(n >= 0, Check.SIZE);
    ask(n <= 40, Check.BEYOND);
    sheets[s] = bitsOf == 0 ? null : new int[n];
    bits[s] = bitsOf;
    return bitsOf == 0 ? 0 : n;
  }

  private int write(int s, int i, int v) {
    range(s, 0, 3);
    ask(sheets[s] != null, Check.MISSING);
    range(i, 0, sheets[s].length - 1);
    sheets[s][i] = v << 32 - bits[s] >> 32 - bits[s];
    return 1;
  }

  private int copy(int s, int from, int t, int to, int n) {
    range(s, 0, 3);
    range(t, 0, 3);
    ask(sheets[s] != null && sheets[t] != null, Check.MISSING);
    ask(bits[s] == bits[t], Check.KIND);
    ask(from >= 0 && to >= 0 && n >= 0, Check.BEYOND);
    ask((long) from + n <= sheets[s].length && (long) to + n <= sheets[t].length, Check.BEYOND);
    int[] was = sheets[s].clone();
    for (int i = 0; i < n; i++) {
      sheets[t][to + i] = was[from + i];
    }
    return n;
  }

  private int load(int s) {
    range(s, 0, 3);
    ask(sheets[s] != null, Check.MISSING);
    int came = 0;
    for (int v : sheets[s]) {
      if (v < 1 || v > 99 || came == w.deeds.size()) {
        break;
      }
      w.deeds.get(came++).wax = v;
    }
    return came;
  }

  private int judge(int s, int deed) {
    range(s, 0, 3);
    ask(sheets[s] != null, Check.MISSING);
    isDeed(deed);
    hoursFit(sheets[s].length);
    for (int i = 0; i < sheets[s].length; i++) {
      if (w.after(i + 1).deeds.get(deed).soft != sheets[s][i]) {
        return 1 + i;
      }
    }
    return 0;
  }

  private int tear() {
    int had = kept == null ? 0 : 1;
    kept = null;
    return had;
  }

  private int count(int what) {
    range(what, 0, 7);
    int held = 0;
    for (Integer spot : w.spots) {
      held += spot == null ? 0 : 1;
    }
    int[] told = {w.hour, w.deeds.size(), w.summer, 63 & ~w.shut(), w.iceOfAll(), tape.length(), w.z, held};
    return told[what];
  }

  private int status(int which) {
    range(which, -1, 6);
    int all = 0;
    for (int n : findings) {
      all += n;
    }
    return which == -1 ? all : findings[which];
  }
}
