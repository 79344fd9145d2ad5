/** Peaces between valleys that hold while their seals of wax are whole. */
public final class WaxTreaties {

  // Findings, in the order in which status() tells them.
  private static final int BEYOND = -1000001;
  private static final int FULL = BEYOND - 1;
  private static final int KIND = BEYOND - 2;
  private static final int NONE = BEYOND - 3;
  private static final int STATE = BEYOND - 4;
  private static final int MISSING = BEYOND - 5;
  private static final int SIZE = BEYOND - 6;
  private static final int FINDINGS = 7;
  private static final int NO_FINDING = 0;

  private static final int SHELVES = 6;
  private static final int SHUTTER_SETS = 1 << SHELVES;
  private static final int DEEDS = 8;
  private static final int SPOTS = 10;
  private static final int SHEETS = 4;
  private static final int NUMBERS = 40;
  private static final int BYTES = 120;
  private static final int NOTHING = -1;

  private static final int MOST = 99;
  private static final int FIRST_WAX = 40;
  private static final int FIRST_SUMMER = 15;
  private static final int LAST_SUMMER = 40;
  private static final int LAST_HOUR = 9999;
  private static final int FAR = 100;
  private static final int DAY = 24;
  private static final int LAST_DAYS = 12;

  private final Chancery live = new Chancery();
  private final Chancery trial = new Chancery();
  private final Chancery kept = new Chancery();
  private boolean anyKept = false;
  private final Tape tape = new Tape();
  private final Sheet[] sheets = new Sheet[SHEETS];
  private final int[] findings = new int[FINDINGS];

  public WaxTreaties() {
    for (int s = 0; s < SHEETS; s++) {
      sheets[s] = new Sheet();
    }
  }

  // ---- the chancery

  public int deed(int kind, int shelf) {
    if (!Kinds.isKind(kind) || !isShelf(shelf)) {
      return found(BEYOND);
    }
    if (live.isFull()) {
      return found(FULL);
    }
    return live.addDeed(kind, shelf, FIRST_WAX, NOTHING);
  }

  public int of(int deed, int what) {
    if (!live.isDeed(deed)) {
      return found(BEYOND);
    }
    switch (what) {
      case 0:
        return live.kind[deed];
      case 1:
        return live.shelf[deed];
      case 2:
        return live.wax[deed];
      case 3:
        return live.soft[deed];
      case 4:
        return live.hasRun(deed) ? 1 : 0;
      case 5:
        return live.hangsOn[deed];
      case 6:
        return Kinds.stands(live.kind[deed], live.wax[deed]);
      case 7:
        return Kinds.runsAt(live.kind[deed]);
      case 8:
        return Kinds.feels(live.kind[deed], live.heatOf(live.shelf[deed], live.hour));
      case 9:
        return live.peaceHolds(deed) ? 1 : 0;
      default:
        return found(BEYOND);
    }
  }

  public int change(int deed, int what, int v) {
    if (!live.isDeed(deed)) {
      return found(BEYOND);
    }
    switch (what) {
      case 0:
        return Kinds.isKind(v) ? put(live.kind, deed, v) : found(BEYOND);
      case 1:
        return isShelf(v) ? put(live.shelf, deed, v) : found(BEYOND);
      case 2:
        return isWax(v) ? put(live.wax, deed, v) : found(BEYOND);
      case 3:
        return isWithin(v, 0, MOST) ? put(live.soft, deed, v) : found(BEYOND);
      case 5:
        return isWithin(v, NOTHING, deed - 1) ? put(live.hangsOn, deed, v) : found(BEYOND);
      default:
        return found(BEYOND);
    }
  }

  public int renew(int deed) {
    if (!live.isDeed(deed)) {
      return found(BEYOND);
    }
    int had = live.hasRun(deed) ? 1 : 0;
    live.soft[deed] = 0;
    live.run = without(live.run, deed);
    return had;
  }

  public int shelf(int shelf, int what, int v) {
    if (!isShelf(shelf)) {
      return found(BEYOND);
    }
    if (what == 1) {
      return isWithin(v, 0, MOST) ? put(live.ice, shelf, v) : found(BEYOND);
    }
    if (!isWithin(v, 0, 1)) {
      return found(BEYOND);
    }
    int was;
    switch (what) {
      case 0:
        was = has(live.open, shelf) ? 1 : 0;
        live.setShutter(shelf, v == 1);
        return was;
      case 2:
        was = has(live.candles, shelf) ? 1 : 0;
        live.setCandle(shelf, v == 1);
        return was;
      default:
        return found(BEYOND);
    }
  }

  public int summer(int v) {
    if (!isWithin(v, 0, LAST_SUMMER)) {
      return found(BEYOND);
    }
    int was = live.summer;
    live.summer = v;
    return was;
  }

  public int sun(int hour) {
    return isWithin(hour, 0, LAST_HOUR) ? Chancery.sunAt(hour) : found(BEYOND);
  }

  public int heat(int shelf, int hour) {
    if (!isShelf(shelf) || !isWithin(hour, 0, LAST_HOUR)) {
      return found(BEYOND);
    }
    return live.heatOf(shelf, hour);
  }

  public int lie(int shelf) {
    if (!isShelf(shelf)) {
      return found(BEYOND);
    }
    int set = 0;
    for (int d = 0; d < live.deeds; d++) {
      if (live.shelf[d] == shelf) {
        set = with(set, d);
      }
    }
    return set;
  }

  // ---- hours

  public int hours(int n) {
    int refused = refusal(n, FAR);
    return refused == NO_FINDING ? live.pass(n) : found(refused);
  }

  public int now(int what) {
    switch (what) {
      case 0:
        return live.hour;
      case 1:
        return live.peaces(live.run);
      case 2:
        return live.run;
      case 3:
        return live.softOfAll();
      case 4:
        return live.iceOfAll();
      case 5:
        return live.hottest();
      case 6:
        return live.summer;
      default:
        return found(BEYOND);
    }
  }

  public int ahead(int n, int what) {
    if (!isWithin(n, 0, FAR) || !isWithin(what, 0, 2 + live.deeds)) {
      return found(BEYOND);
    }
    if (isTooLate(n)) {
      return found(STATE);
    }
    trial.take(live);
    trial.pass(n);
    switch (what) {
      case 0:
        return trial.peaces(trial.run);
      case 1:
        return trial.run;
      case 2:
        return trial.iceOfAll();
      default:
        return trial.soft[what - 3];
    }
  }

  public int ends(int deed) {
    int refused = refusalOfEnd(deed);
    if (refused != NO_FINDING) {
      return found(refused);
    }
    trial.take(live);
    int end = trial.endOf(deed);
    return end <= FAR ? end : found(NONE);
  }

  public int soonest() {
    if (isTooLate(FAR)) {
      return found(STATE);
    }
    trial.take(live);
    int first = trial.firstToEnd();
    return first == NOTHING ? found(NONE) : first;
  }

  // ---- where to lay what (nothing changes)

  public int place(int deed) {
    int refused = refusalOfEnd(deed);
    if (refused != NO_FINDING) {
      return found(refused);
    }
    int best = 0;
    int longest = -1;
    for (int s = 0; s < SHELVES; s++) {
      trial.take(live);
      trial.shelf[deed] = s;
      int end = trial.endOf(deed);
      if (end > longest) {
        best = s;
        longest = end;
      }
    }
    return best;
  }

  public int kindFor(int deed) {
    int refused = refusalOfEnd(deed);
    if (refused != NO_FINDING) {
      return found(refused);
    }
    int best = 0;
    int longest = -1;
    for (int k = 0; k < Kinds.COUNT; k++) {
      trial.take(live);
      trial.kind[deed] = k;
      int end = trial.endOf(deed);
      if (end > longest) {
        best = k;
        longest = end;
      }
    }
    return best;
  }

  public int ice(int n, int h) {
    int refused = isWithin(n, 1, MOST) ? refusal(h, FAR) : BEYOND;
    if (refused != NO_FINDING) {
      return found(refused);
    }
    int best = 0;
    int most = -1;
    for (int s = 0; s < SHELVES; s++) {
      trial.take(live);
      trial.bringIce(s, n);
      int holding = trial.holdingBehind(h);
      if (holding > most) {
        best = s;
        most = holding;
      }
    }
    return best;
  }

  public int blocks(int deed, int h) {
    int refused = refusalOfDeed(deed, h);
    if (refused != NO_FINDING) {
      return found(refused);
    }
    int shelf = live.shelf[deed];
    // More than one for each hour, or than the shelf can hold, changes nothing.
    int enough = Math.min(h, MOST - live.ice[shelf]);
    for (int n = 0; n <= enough; n++) {
      trial.take(live);
      trial.bringIce(shelf, n);
      if (trial.holdsBehind(deed, h)) {
        return n;
      }
    }
    return found(NONE);
  }

  public int bears(int deed, int h) {
    int refused = refusalOfDeed(deed, h);
    if (refused != NO_FINDING) {
      return found(refused);
    }
    for (int summer = LAST_SUMMER; summer >= 0; summer--) {
      trial.take(live);
      trial.summer = summer;
      if (trial.holdsBehind(deed, h)) {
        return summer;
      }
    }
    return found(NONE);
  }

  public int swap(int h) {
    int refused = refusal(h, FAR);
    if (refused != NO_FINDING) {
      return found(refused);
    }
    trial.take(live);
    int most = trial.holdingBehind(h);
    int best = NOTHING;
    for (int a = 0; a < live.deeds; a++) {
      for (int b = a + 1; b < live.deeds; b++) {
        int holding = holdingSwapped(a, b, h);
        if (holding > most) {
          best = 10 * a + b;
          most = holding;
        }
      }
    }
    return best == NOTHING ? found(NONE) : best;
  }

  public int law(int h) {
    int refused = refusal(h, FAR);
    if (refused != NO_FINDING) {
      return found(refused);
    }
    int best = 0;
    int most = -1;
    for (int k = 0; k < Kinds.COUNT; k++) {
      trial.take(live);
      trial.setAllKinds(k);
      int holding = trial.holdingBehind(h);
      if (holding > most) {
        best = k;
        most = holding;
      }
    }
    return best;
  }

  // ---- an enemy

  public int enemy(int k, int h) {
    int refused = refusalOfEnemy(k, h);
    return refused == NO_FINDING ? worstSet(k, h) : found(refused);
  }

  public int worst(int k, int h) {
    int refused = refusalOfEnemy(k, h);
    return refused == NO_FINDING ? holdingOpened(worstSet(k, h), h) : found(refused);
  }

  public int least(int deed, int h) {
    int refused = refusalOfDeed(deed, h);
    if (refused != NO_FINDING) {
      return found(refused);
    }
    int fewest = SHELVES + 1;
    for (int set = 0; set < SHUTTER_SETS; set++) {
      int size = Integer.bitCount(set);
      if ((set & live.open) == 0 && size < fewest && endsOpened(set, deed, h)) {
        fewest = size;
      }
    }
    return fewest <= SHELVES ? fewest : found(NONE);
  }

  public int nail(int h) {
    int refused = refusal(h, FAR);
    if (refused != NO_FINDING) {
      return found(refused);
    }
    int best = NOTHING;
    int most = -1;
    for (int s = 0; s < SHELVES; s++) {
      if (!has(live.open, s)) {
        int holding = worstBesides(s, h);
        if (holding > most) {
          best = s;
          most = holding;
        }
      }
    }
    return best == NOTHING ? found(NONE) : best;
  }

  // ---- what hangs

  public int hang(int deed) {
    return live.isDeed(deed) ? live.hangingOn(deed) : found(BEYOND);
  }

  public int falls(int deed) {
    return live.isDeed(deed) ? live.fallingWith(deed) : found(BEYOND);
  }

  public int war() {
    // A peace that hangs on none ends by its own seal alone, and takes along all that hangs on it.
    int holding = live.peaces(live.run);
    int roots = 0;
    for (int d = 0; d < live.deeds; d++) {
      if (has(holding, d) && live.hangsOn[d] == NOTHING) {
        roots++;
      }
    }
    return roots;
  }

  public int key() {
    int best = NOTHING;
    int most = -1;
    for (int d = 0; d < live.deeds; d++) {
      int falling = Integer.bitCount(live.fallingWith(d));
      if (falling > most) {
        best = d;
        most = falling;
      }
    }
    return best == NOTHING ? found(NONE) : best;
  }

  // ---- books

  public int began() {
    if (live.hour < DAY) {
      return found(STATE);
    }
    int set = 0;
    for (int h = 1; h <= DAY; h++) {
      trial.take(live);
      trial.makeSealsAnew();
      trial.hour = live.hour - h;
      trial.pass(h);
      if (trial.run == live.run) {
        set = with(set, h);
      }
    }
    return set;
  }

  public int opened(int set, int h) {
    int refused = isWithin(set, 0, (1 << live.deeds) - 1) ? refusal(h, DAY) : BEYOND;
    if (refused != NO_FINDING) {
      return found(refused);
    }
    int ways = 0;
    for (int open = 0; open < SHUTTER_SETS; open++) {
      trial.take(live);
      trial.open = open;
      trial.pass(h);
      if (trial.run == set) {
        ways++;
      }
    }
    return ways;
  }

  // ---- draws

  public int days(int n) {
    if (!isWithin(n, 1, LAST_DAYS)) {
      return found(BEYOND);
    }
    if (isTooLate(n * DAY)) {
      return found(STATE);
    }
    int runs = 0;
    for (int day = 0; day < n; day++) {
      live.summer = live.draw() % (LAST_SUMMER + 1);
      int shelf = live.draw() % SHELVES;
      live.setShutter(shelf, !has(live.open, shelf));
      runs += live.pass(DAY);
    }
    return runs;
  }

  public int seed(int v) {
    int was = live.z;
    live.z = v;
    return was;
  }

  // ---- texts

  public int feed(int bytes, int n) {
    if (!isWithin(n, 1, 4)) {
      return found(BEYOND);
    }
    if (tape.length + n > BYTES) {
      return found(FULL);
    }
    for (int left = n - 1; left >= 0; left--) {
      tape.append(bytes >>> (8 * left) & 255);
    }
    return tape.length;
  }

  public int wipe() {
    int had = tape.length;
    tape.length = 0;
    return had;
  }

  public int text() {
    // A text with a fault must change nothing, so it is read onto the trial first.
    trial.take(live);
    int items = tape.readText(trial);
    tape.length = 0;
    if (items >= 0) {
      live.take(trial);
    }
    return items;
  }

  // ---- spots, sheets

  public int hold(int spot, int deed) {
    if (!isWithin(spot, 0, SPOTS - 1) || !isWithin(deed, NOTHING, live.deeds - 1)) {
      return found(BEYOND);
    }
    live.spots[spot] = deed;
    return 1;
  }

  public int as(int spot, int kind) {
    if (!isWithin(spot, 0, SPOTS - 1) || !Kinds.isKind(kind)) {
      return found(BEYOND);
    }
    int deed = live.spots[spot];
    if (!live.isDeed(deed)) {
      return found(MISSING);
    }
    return Kinds.isOneOf(live.kind[deed], kind) ? deed : found(KIND);
  }

  public int sheet(int s, int bits, int n) {
    if (!isSheet(s) || (bits != 0 && bits != 8 && bits != 16 && bits != 32)) {
      return found(BEYOND);
    }
    if (n < 0) {
      return found(SIZE);
    }
    if (n > NUMBERS) {
      return found(BEYOND);
    }
    sheets[s].makeAnew(bits, n);
    return sheets[s].size;
  }

  public int write(int s, int i, int v) {
    int refused = refusalOfSheet(s);
    if (refused != NO_FINDING) {
      return found(refused);
    }
    if (!isWithin(i, 0, sheets[s].size - 1)) {
      return found(BEYOND);
    }
    sheets[s].numbers[i] = sheets[s].lowestBits(v);
    return 1;
  }

  public int copy(int s, int from, int t, int to, int n) {
    if (!isSheet(s) || !isSheet(t)) {
      return found(BEYOND);
    }
    Sheet source = sheets[s];
    Sheet target = sheets[t];
    if (source.isMissing() || target.isMissing()) {
      return found(MISSING);
    }
    if (source.bits != target.bits) {
      return found(KIND);
    }
    if (!source.hasRange(from, n) || !target.hasRange(to, n)) {
      return found(BEYOND);
    }
    System.arraycopy(source.numbers, from, target.numbers, to, n);
    return n;
  }

  public int load(int s) {
    int refused = refusalOfSheet(s);
    if (refused != NO_FINDING) {
      return found(refused);
    }
    Sheet sheet = sheets[s];
    int came = 0;
    while (came < sheet.size && came < live.deeds && isWax(sheet.numbers[came])) {
      live.wax[came] = sheet.numbers[came];
      came++;
    }
    return came;
  }

  public int judge(int s, int deed) {
    int refused = refusalOfSheet(s);
    if (refused != NO_FINDING) {
      return found(refused);
    }
    Sheet sheet = sheets[s];
    if (!live.isDeed(deed)) {
      return found(BEYOND);
    }
    if (isTooLate(sheet.size)) {
      return found(STATE);
    }
    trial.take(live);
    for (int i = 0; i < sheet.size; i++) {
      trial.pass(1);
      if (trial.soft[deed] != sheet.numbers[i]) {
        return 1 + i;
      }
    }
    return 0;
  }

  // ---- images

  public int image() {
    kept.take(live);
    anyKept = true;
    return 1;
  }

  public int undo() {
    if (!anyKept) {
      return found(NONE);
    }
    live.take(kept);
    return live.hour;
  }

  public int tear() {
    int had = anyKept ? 1 : 0;
    anyKept = false;
    return had;
  }

  public int count(int what) {
    switch (what) {
      case 0:
        return live.hour;
      case 1:
        return live.deeds;
      case 2:
        return live.summer;
      case 3:
        return live.open;
      case 4:
        return live.iceOfAll();
      case 5:
        return tape.length;
      case 6:
        return live.z;
      case 7:
        return live.spotsHeld();
      default:
        return found(BEYOND);
    }
  }

  public int status(int which) {
    if (!isWithin(which, -1, FINDINGS - 1)) {
      return found(BEYOND);
    }
    if (which >= 0) {
      return findings[which];
    }
    int all = 0;
    for (int f = 0; f < FINDINGS; f++) {
      all += findings[f];
    }
    return all;
  }

  // ---- findings

  private int found(int finding) {
    int which = BEYOND - finding;
    if (isWithin(which, 0, FINDINGS - 1)) {
      findings[which]++;
    }
    return finding;
  }

  private boolean isTooLate(int n) {
    return live.hour + n > LAST_HOUR;
  }

  private int refusal(int h, int farthest) {
    if (!isWithin(h, 1, farthest)) {
      return BEYOND;
    }
    return isTooLate(h) ? STATE : NO_FINDING;
  }

  private int refusalOfDeed(int deed, int h) {
    return live.isDeed(deed) ? refusal(h, FAR) : BEYOND;
  }

  private int refusalOfEnd(int deed) {
    return refusalOfDeed(deed, FAR);
  }

  private int refusalOfEnemy(int k, int h) {
    if (!isWithin(k, 0, SHELVES)) {
      return BEYOND;
    }
    int refused = refusal(h, FAR);
    if (refused != NO_FINDING) {
      return refused;
    }
    return SHELVES - Integer.bitCount(live.open) < k ? NONE : NO_FINDING;
  }

  private int refusalOfSheet(int s) {
    if (!isSheet(s)) {
      return BEYOND;
    }
    return sheets[s].isMissing() ? MISSING : NO_FINDING;
  }

  // ---- trials

  private int holdingSwapped(int a, int b, int h) {
    trial.take(live);
    trial.shelf[a] = live.shelf[b];
    trial.shelf[b] = live.shelf[a];
    return trial.holdingBehind(h);
  }

  private int holdingOpened(int set, int h) {
    trial.take(live);
    trial.open |= set;
    return trial.holdingBehind(h);
  }

  private boolean endsOpened(int set, int deed, int h) {
    trial.take(live);
    trial.open |= set;
    return !trial.holdsBehind(deed, h);
  }

  private int worstSet(int k, int h) {
    int worst = 0;
    int fewest = DEEDS + 1;
    for (int set = 0; set < SHUTTER_SETS; set++) {
      if ((set & live.open) == 0 && Integer.bitCount(set) == k) {
        int holding = holdingOpened(set, h);
        if (holding < fewest) {
          worst = set;
          fewest = holding;
        }
      }
    }
    return worst;
  }

  private int worstBesides(int nailed, int h) {
    int fewest = DEEDS + 1;
    for (int s = 0; s < SHELVES; s++) {
      if (s != nailed && !has(live.open, s)) {
        fewest = Math.min(fewest, holdingOpened(1 << s, h));
      }
    }
    return fewest <= DEEDS ? fewest : holdingOpened(0, h);
  }

  // ---- small things

  private static boolean isWithin(int v, int low, int high) {
    return v >= low && v <= high;
  }

  private static boolean isShelf(int shelf) {
    return isWithin(shelf, 0, SHELVES - 1);
  }

  private static boolean isSheet(int s) {
    return isWithin(s, 0, SHEETS - 1);
  }

  private static boolean isWax(int v) {
    return isWithin(v, 1, MOST);
  }

  private static boolean has(int set, int i) {
    return (set >> i & 1) == 1;
  }

  private static int with(int set, int i) {
    return set | 1 << i;
  }

  private static int without(int set, int i) {
    return set & ~(1 << i);
  }

  private static int put(int[] row, int i, int v) {
    int was = row[i];
    row[i] = v;
    return was;
  }

  /** The tree of kinds, and what each makes of heat, wax and softness. */
  private static final class Kinds {
    static final int COUNT = 7;
    private static final int DOUBLE = 1;
    private static final int TALLOW = 2;
    private static final int COPY = 3;
    private static final int STACKED = 4;
    private static final int BURIED = 5;
    private static final int FALSE = 6;
    private static final int[] ABOVE = {-1, 0, 0, TALLOW, DOUBLE, 0, BURIED};

    static boolean isKind(int kind) {
      return isWithin(kind, 0, COUNT - 1);
    }

    static boolean isOneOf(int kind, int other) {
      int at = kind;
      for (int steps = 0; steps < COUNT && isKind(at); steps++) {
        if (at == other) {
          return true;
        }
        at = ABOVE[at];
      }
      return false;
    }

    static int feels(int kind, int heat) {
      switch (kind) {
        case STACKED:
          return heat - 4;
        case BURIED:
        case FALSE:
          return heat * 2 / 3;
        default:
          return heat;
      }
    }

    static int stands(int kind, int wax) {
      switch (kind) {
        case TALLOW:
        case COPY:
          return wax - 8;
        case FALSE:
          return wax - 5;
        default:
          return wax;
      }
    }

    static int runsAt(int kind) {
      switch (kind) {
        case DOUBLE:
        case STACKED:
          return 20;
        case COPY:
          return 5;
        default:
          return 10;
      }
    }
  }

  /** All that image() keeps; a second one serves to try what would be. */
  private static final class Chancery {
    final int[] kind = new int[DEEDS];
    final int[] shelf = new int[DEEDS];
    final int[] wax = new int[DEEDS];
    final int[] soft = new int[DEEDS];
    final int[] hangsOn = new int[DEEDS];
    final int[] ice = new int[SHELVES];
    final int[] spots = new int[SPOTS];
    int run = 0;
    int deeds = 0;
    int open = 0;
    int candles = 0;
    int hour = 0;
    int summer = FIRST_SUMMER;
    int z = 1;
    private final int[] heats = new int[SHELVES];

    Chancery() {
      for (int spot = 0; spot < SPOTS; spot++) {
        spots[spot] = NOTHING;
      }
    }

    void take(Chancery other) {
      System.arraycopy(other.kind, 0, kind, 0, DEEDS);
      System.arraycopy(other.shelf, 0, shelf, 0, DEEDS);
      System.arraycopy(other.wax, 0, wax, 0, DEEDS);
      System.arraycopy(other.soft, 0, soft, 0, DEEDS);
      System.arraycopy(other.hangsOn, 0, hangsOn, 0, DEEDS);
      System.arraycopy(other.ice, 0, ice, 0, SHELVES);
      System.arraycopy(other.spots, 0, spots, 0, SPOTS);
      run = other.run;
      deeds = other.deeds;
      open = other.open;
      candles = other.candles;
      hour = other.hour;
      summer = other.summer;
      z = other.z;
    }

    boolean isDeed(int deed) {
      return isWithin(deed, 0, deeds - 1);
    }

    boolean isFull() {
      return deeds >= DEEDS;
    }

    int addDeed(int ofKind, int onShelf, int ofWax, int on) {
      if (isFull()) {
        return NOTHING;
      }
      int deed = deeds;
      kind[deed] = ofKind;
      shelf[deed] = onShelf;
      wax[deed] = ofWax;
      soft[deed] = 0;
      hangsOn[deed] = on;
      deeds++;
      return deed;
    }

    void setShutter(int ofShelf, boolean isOpen) {
      open = isOpen ? with(open, ofShelf) : without(open, ofShelf);
    }

    void setCandle(int ofShelf, boolean isHere) {
      candles = isHere ? with(candles, ofShelf) : without(candles, ofShelf);
    }

    void setAllKinds(int ofKind) {
      for (int d = 0; d < deeds; d++) {
        kind[d] = ofKind;
      }
    }

    void bringIce(int toShelf, int blocksMore) {
      ice[toShelf] = Math.min(MOST, ice[toShelf] + blocksMore);
    }

    void makeSealsAnew() {
      for (int d = 0; d < deeds; d++) {
        soft[d] = 0;
      }
      run = 0;
    }

    int draw() {
      z = z * 1103515245 + 12345;
      return z >>> 8;
    }

    int softOfAll() {
      int sum = 0;
      for (int d = 0; d < deeds; d++) {
        sum += soft[d];
      }
      return sum;
    }

    int iceOfAll() {
      int sum = 0;
      for (int s = 0; s < SHELVES; s++) {
        sum += ice[s];
      }
      return sum;
    }

    int spotsHeld() {
      int held = 0;
      for (int spot = 0; spot < SPOTS; spot++) {
        if (spots[spot] != NOTHING) {
          held++;
        }
      }
      return held;
    }

    static int sunAt(int atHour) {
      int ofDay = atHour % DAY;
      return ofDay < 6 || ofDay >= 20 ? 0 : 28 - 4 * Math.abs(ofDay - 13);
    }

    int heatOf(int ofShelf, int atHour) {
      return heatUnder(sunAt(atHour), ofShelf);
    }

    private int heatUnder(int sun, int ofShelf) {
      int heat = summer - 6 * ofShelf + (has(open, ofShelf) ? sun : sun / 2);
      if (ice[ofShelf] > 0) {
        heat -= 10;
      }
      if (has(candles, ofShelf)) {
        heat += 12;
      }
      return heat;
    }

    int hottest() {
      int best = 0;
      for (int s = 1; s < SHELVES; s++) {
        if (heatOf(s, hour) > heatOf(best, hour)) {
          best = s;
        }
      }
      return best;
    }

    boolean hasRun(int deed) {
      return has(run, deed);
    }

    /** Those whose peace would hold if just a set had run. */
    int peaces(int runSet) {
      int set = 0;
      // What a deed hangs on has a lesser number, so it is settled before.
      for (int d = 0; d < deeds; d++) {
        boolean isCarried = hangsOn[d] == NOTHING || has(set, hangsOn[d]);
        if (isCarried && !has(runSet, d)) {
          set = with(set, d);
        }
      }
      return set;
    }

    boolean peaceHolds(int deed) {
      return has(peaces(run), deed);
    }

    int hangingOn(int deed) {
      int set = 0;
      for (int d = deed + 1; d < deeds; d++) {
        int on = hangsOn[d];
        if (on == deed || (on != NOTHING && has(set, on))) {
          set = with(set, d);
        }
      }
      return set;
    }

    int fallingWith(int deed) {
      return peaces(run) & ~peaces(with(run, deed));
    }

    int pass(int n) {
      int runs = 0;
      for (int i = 0; i < n; i++) {
        runs += passHour();
      }
      return runs;
    }

    private int passHour() {
      int sun = sunAt(hour);
      for (int s = 0; s < SHELVES; s++) {
        heats[s] = heatUnder(sun, s);
      }
      int runs = 0;
      for (int d = 0; d < deeds; d++) {
        if (!has(run, d) && softens(d)) {
          run = with(run, d);
          dropOn(shelf[d] + 1);
          runs++;
        }
      }
      for (int s = 0; s < SHELVES; s++) {
        if (heats[s] > 20 && ice[s] > 0) {
          ice[s]--;
        }
      }
      hour++;
      return runs;
    }

    /** A deed's turn in an hour; answers whether its seal runs in it. */
    private boolean softens(int deed) {
      int over = Kinds.feels(kind[deed], heats[shelf[deed]]) - Kinds.stands(kind[deed], wax[deed]);
      soft[deed] = over > 0 ? Math.min(MOST, soft[deed] + over) : Math.max(0, soft[deed] - 1);
      return soft[deed] >= Kinds.runsAt(kind[deed]);
    }

    private void dropOn(int beneath) {
      for (int d = 0; d < deeds; d++) {
        if (shelf[d] == beneath && !has(run, d)) {
          soft[d] = Math.min(MOST, soft[d] + 3);
        }
      }
    }

    int holdingBehind(int h) {
      for (int i = 0; i < h; i++) {
        passHour();
      }
      return Integer.bitCount(peaces(run));
    }

    boolean holdsBehind(int deed, int h) {
      // A peace that holds no more never does again, so the rest of the hours needn't go.
      boolean isHolding = peaceHolds(deed);
      for (int i = 0; i < h && isHolding; i++) {
        isHolding = passHour() == 0 || peaceHolds(deed);
      }
      return isHolding;
    }

    /** Behind how many hours a peace holds no more; 101 if it does behind 100. */
    int endOf(int deed) {
      for (int n = 0; n < FAR; n++) {
        if (!peaceHolds(deed)) {
          return n;
        }
        pass(1);
      }
      return peaceHolds(deed) ? FAR + 1 : FAR;
    }

    int firstToEnd() {
      int first = firstEnded();
      for (int n = 0; n < FAR && first == NOTHING; n++) {
        pass(1);
        first = firstEnded();
      }
      return first;
    }

    private int firstEnded() {
      int holding = peaces(run);
      for (int d = 0; d < deeds; d++) {
        if (!has(holding, d)) {
          return d;
        }
      }
      return NOTHING;
    }
  }

  /** A sheet of numbers; of 0 bits it is missing. */
  private static final class Sheet {
    final int[] numbers = new int[NUMBERS];
    int bits = 0;
    int size = 0;

    boolean isMissing() {
      return bits == 0;
    }

    void makeAnew(int ofBits, int n) {
      bits = ofBits;
      size = ofBits == 0 ? 0 : n;
      for (int i = 0; i < NUMBERS; i++) {
        numbers[i] = 0;
      }
    }

    boolean hasRange(int from, int n) {
      // Subtracting keeps great numbers from wrapping around.
      return from >= 0 && n >= 0 && from <= size - n;
    }

    int lowestBits(int v) {
      if (bits == 8) {
        return (byte) v;
      }
      return bits == 16 ? (short) v : v;
    }
  }

  /** The tape, and the reader of the text on it. */
  private static final class Tape {
    private static final int END = 0;
    private static final int WORD = 1;
    private static final int NUMBER = 2;
    private static final int SIGN = 3;
    private static final int NO_TOKEN = 4;
    private static final int TOO_MUCH = 1000;

    private final int[] bytes = new int[BYTES];
    int length = 0;
    // The token that is looked at: where it begins, where the next can, its sort, its number.
    private int at = 0;
    private int next = 0;
    private int sort = END;
    private int value = 0;

    void append(int b) {
      if (length < BYTES) {
        bytes[length] = b;
        length++;
      }
    }

    /** How many items there are, or -1 less the fault. */
    int readText(Chancery told) {
      next = 0;
      step();
      int items = 0;
      while (items < BYTES && readItem(told)) {
        items++;
        if (sort == END) {
          return items;
        }
        if (sort != SIGN) {
          return -1 - at;
        }
        step();
      }
      return -1 - at;
    }

    /** False with a fault: the token looked at is the one that can't stand. */
    private boolean readItem(Chancery told) {
      int kind = kindOfWord();
      if (kind != NOTHING) {
        return readDeed(told, kind);
      }
      if (takesWord("shutter")) {
        return readShutter(told);
      }
      if (takesWord("ice")) {
        return readIce(told);
      }
      if (takesWord("candle")) {
        return readCandle(told);
      }
      return takesWord("summer") && readSummer(told);
    }

    private int kindOfWord() {
      for (int kind = 0; kind < Kinds.COUNT; kind++) {
        if (isWord(wordOf(kind))) {
          return kind;
        }
      }
      return NOTHING;
    }

    private static String wordOf(int kind) {
      switch (kind) {
        case 0:
          return "deed";
        case 1:
          return "double";
        case 2:
          return "tallow";
        case 3:
          return "copy";
        case 4:
          return "stacked";
        case 5:
          return "buried";
        default:
          return "false";
      }
    }

    private boolean readDeed(Chancery told, int kind) {
      if (told.isFull()) {
        return false;
      }
      step();
      int shelf = takeNumber(0, SHELVES - 1);
      if (shelf == NOTHING) {
        return false;
      }
      int wax = takesWord("wax") ? takeNumber(1, MOST) : FIRST_WAX;
      if (wax == NOTHING) {
        return false;
      }
      int on = NOTHING;
      if (takesWord("on")) {
        on = takeNumber(0, told.deeds - 1);
        if (on == NOTHING) {
          return false;
        }
      }
      told.addDeed(kind, shelf, wax, on);
      return true;
    }

    private boolean readShutter(Chancery told) {
      int shelf = takeNumber(0, SHELVES - 1);
      if (shelf == NOTHING) {
        return false;
      }
      boolean isOpen = takesWord("open");
      if (!isOpen && !takesWord("shut")) {
        return false;
      }
      told.setShutter(shelf, isOpen);
      return true;
    }

    private boolean readIce(Chancery told) {
      int shelf = takeNumber(0, SHELVES - 1);
      if (shelf == NOTHING) {
        return false;
      }
      int blocks = takeNumber(0, MOST);
      if (blocks == NOTHING) {
        return false;
      }
      told.ice[shelf] = blocks;
      return true;
    }

    private boolean readCandle(Chancery told) {
      int shelf = takeNumber(0, SHELVES - 1);
      if (shelf == NOTHING) {
        return false;
      }
      boolean isHere = takesWord("here");
      if (!isHere && !takesWord("gone")) {
        return false;
      }
      told.setCandle(shelf, isHere);
      return true;
    }

    private boolean readSummer(Chancery told) {
      int summer = takeNumber(0, LAST_SUMMER);
      if (summer == NOTHING) {
        return false;
      }
      told.summer = summer;
      return true;
    }

    /** The number looked at, or nothing if none from low to high is; only what fits is stepped over. */
    private int takeNumber(int low, int high) {
      if (sort != NUMBER || !isWithin(value, low, high)) {
        return NOTHING;
      }
      int taken = value;
      step();
      return taken;
    }

    private boolean takesWord(String word) {
      boolean isThere = isWord(word);
      if (isThere) {
        step();
      }
      return isThere;
    }

    private boolean isWord(String word) {
      if (sort != WORD || next - at != word.length()) {
        return false;
      }
      for (int i = 0; i < word.length(); i++) {
        if (byteAt(at + i) != word.charAt(i)) {
          return false;
        }
      }
      return true;
    }

    private void step() {
      while (next < length && byteAt(next) == ' ') {
        next++;
      }
      at = next;
      sort = sortOf(byteAt(at));
      if (sort == SIGN || sort == NO_TOKEN) {
        next++;
      }
      value = 0;
      while ((sort == WORD || sort == NUMBER) && next < length && sortOf(byteAt(next)) == sort) {
        // Many digits must not wrap around into a number that would fit.
        value = Math.min(TOO_MUCH, value * 10 + byteAt(next) - '0');
        next++;
      }
    }

    /** The sort of a token that begins with a byte. */
    private static int sortOf(int b) {
      if (b == NOTHING) {
        return END;
      }
      if (b >= 'a' && b <= 'z') {
        return WORD;
      }
      if (b >= '0' && b <= '9') {
        return NUMBER;
      }
      return b == ';' ? SIGN : NO_TOKEN;
    }

    private int byteAt(int place) {
      return place >= 0 && place < length && place < BYTES ? bytes[place] : NOTHING;
    }
  }
}
