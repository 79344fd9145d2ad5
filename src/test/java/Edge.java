import java.lang.reflect.InvocationTargetException;
import java.lang.reflect.Method;
import java.util.ArrayList;
import java.util.Arrays;
import java.util.HashMap;
import java.util.List;
import java.util.Map;
import java.util.regex.Matcher;
import java.util.regex.Pattern;

/**
 * A boundary case: calls on a new object, then the act at the edge with the answer that the document
 * asks for, then what later calls answer behind it. Its name says the promise's number, the
 * document's sentence (in quotes) and which edge of it this is.
 *
 * <p>Where the act answers a finding, it must change nothing but status(): everything that can be
 * asked is asked of this object and of a second one that had the same calls without the act, and
 * the two must answer alike but for the status, which has one more. So it is, but for the status,
 * with acts that but ask, and with a text with a fault against an object whose tape was wiped instead.
 *
 * <p>Calls are written as in Java and parted by ; with = and the due answer behind them. Besides:
 * at[n] lets n hours go, say[..] reads items one by one, tape[..] feeds the characters to the tape.
 */
final class Edge {
  private static final List<String> FINDINGS = List.of("BEYOND", "FULL", "KIND", "NONE", "STATE", "MISSING", "SIZE");
  /** These tell something and change nothing, whatever they answer. */
  private static final List<String> ASKING = List.of(
      "of", "sun", "heat", "lie", "now", "ahead", "ends", "soonest", "place", "kindFor", "ice", "blocks", "bears",
      "swap", "law", "enemy", "worst", "least", "nail", "hang", "falls", "war", "key", "began", "opened", "as",
      "judge", "count", "status");
  private static final int FIRST_FINDING = -1000001;
  private static final int MOST_CALLS = 512;
  private static final Pattern CALL = Pattern.compile(
      "\\s*(\\w+)(?:\\(([^)]*)\\)|\\[([^\\]]*)\\])(?:\\s*=\\s*(-?\\w+))?\\s*(?:;|$)");
  private static final Pattern NAME = Pattern.compile("(\\d+) '(.+)' (.+)");
  private static final Map<String, Method> METHODS = methods();

  /** Asked of both, each row on objects of its own: what is seen at once, and what shows but later. */
  private static final List<List<Call>> PROBES = List.of(
      calls(asks()),
      calls("hours(1); days(1); count(6); hours(24); " + asks()),
      calls("undo(); " + asks() + "tear(); undo()"),
      calls("count(5); text(); " + asks()),
      calls("count(5); wipe(); say[summer 3]; feed(0, 4)"),
      sheetAsks(0), sheetAsks(1), sheetAsks(2), sheetAsks(3));

  /** One call; the due answer is null where none is told. */
  private static final class Call {
    final String name;
    final int[] arguments;
    final Integer due;

    Call(String name, int[] arguments, Integer due) {
      this.name = name;
      this.arguments = arguments;
      this.due = due;
    }

    @Override
    public String toString() {
      String row = Arrays.toString(arguments);
      return name + "(" + row.substring(1, row.length() - 1) + ")";
    }
  }

  /** What a case is of, for the one who looks whether there is one for each sentence. */
  static final class Told {
    final int promise;
    final String quote;
    final String act;
    final int due;
    final int behind;

    Told(int promise, String quote, String act, int due, int behind) {
      this.promise = promise;
      this.quote = quote;
      this.act = act;
      this.due = due;
      this.behind = behind;
    }
  }

  private final Check check;
  private final List<Told> told = new ArrayList<>();

  Edge(String name) {
    check = new Check(name);
  }

  List<Told> told() {
    return told;
  }

  void end() {
    check.end();
  }

  /** A case: its name, the calls ahead, the act at the edge with its due answer, calls behind it. */
  void edge(String name, String ahead, String act, String behind) {
    Matcher parts = NAME.matcher(name);
    List<Call> acts = calls(act);
    if (!parts.matches() || acts.size() != 1 || acts.get(0).due == null) {
      throw new IllegalArgumentException("no case: " + name + ": " + act);
    }
    List<Call> before = calls(ahead);
    List<Call> after = calls(behind);
    Call last = acts.get(0);
    told.add(new Told(Integer.parseInt(parts.group(1)), parts.group(2), last.name, last.due, after.size()));
    run(name, before, last, after);
    if (ASKING.contains(last.name) || (isFinding(last.due) && !isAnyInt(last))) {
      twins(name, before, last, null);
    } else if (last.name.equals("text") && last.due < 0) {
      // A FAULT: nothing changes but that the tape is empty, as wipe() makes it; no finding.
      twins(name, before, last, new Call("wipe", new int[0], null));
    }
  }

  private void run(String name, List<Call> before, Call last, List<Call> after) {
    WaxTreaties x = new WaxTreaties();
    Model model = new Model();
    for (Call call : before) {
      int got = answer(x, call);
      boolean isWanted = call.due != null ? got == call.due : !isFinding(got);
      check.that(name + ": ahead " + call + " answered " + got, isWanted);
      model.call(call.name, call.arguments);
    }
    check.due(name + ": " + last, answer(x, last), last.due);
    check.due(name + ": the model's " + last, model.call(last.name, last.arguments), last.due);
    for (Call call : after) {
      int want = model.call(call.name, call.arguments);
      if (call.due != null) {
        check.due(name + ": the model's behind " + call, want, call.due);
        want = call.due;
      }
      check.due(name + ": behind " + call, answer(x, call), want);
    }
  }

  private void twins(String name, List<Call> before, Call act, Call instead) {
    for (int which = -1; which < FINDINGS.size(); which++) {
      boolean isCounted = isFinding(act.due) && !isAnyInt(act) && (which < 0 || which == FIRST_FINDING - act.due);
      Call status = new Call("status", new int[] {which}, null);
      int want = answer(made(before, instead), status) + (isCounted ? 1 : 0);
      check.due(name + ": behind " + status, answer(made(before, act), status), want);
    }
    for (List<Call> probes : PROBES) {
      if (before.size() + 1 + probes.size() > MOST_CALLS) {
        throw new IllegalArgumentException("too many calls: " + name);
      }
      WaxTreaties x = made(before, act);
      WaxTreaties y = made(before, instead);
      for (Call probe : probes) {
        check.due(name + ": nothing changes, " + probe, answer(x, probe), answer(y, probe));
      }
    }
  }

  private WaxTreaties made(List<Call> before, Call act) {
    WaxTreaties x = new WaxTreaties();
    for (Call call : before) {
      answer(x, call);
    }
    if (act != null) {
      answer(x, act);
    }
    return x;
  }

  private int answer(WaxTreaties x, Call call) {
    try {
      Object[] arguments = Arrays.stream(call.arguments).boxed().toArray();
      return (Integer) METHODS.get(call.name).invoke(x, arguments);
    } catch (InvocationTargetException e) {
      check.that(call + " threw " + e.getCause(), false);
      return Integer.MAX_VALUE - 1;
    } catch (IllegalAccessException e) {
      throw new IllegalStateException(e);
    }
  }

  /** What tells z may answer what looks like a finding. */
  private static boolean isAnyInt(Call call) {
    return call.name.equals("seed") || (call.name.equals("count") && call.arguments[0] == 6);
  }

  private static boolean isFinding(int answer) {
    return answer <= FIRST_FINDING && answer > FIRST_FINDING - FINDINGS.size();
  }

  // ---- what is asked of both

  private static String asks() {
    StringBuilder asks = new StringBuilder();
    for (int what = 0; what < 8; what++) {
      asks.append("count(" + what + "); now(" + what + "); ahead(11, " + what + "); ");
    }
    for (int d = 0; d < 8; d++) {
      for (int what = 0; what < 10; what++) {
        asks.append("of(" + d + ", " + what + "); ");
      }
    }
    for (int s = 0; s < 6; s++) {
      asks.append("lie(" + s + "); heat(" + s + ", 13); heat(" + s + ", 1); ");
    }
    for (int spot = 0; spot < 10; spot++) {
      asks.append("as(" + spot + ", 0); ");
    }
    return asks + "of(8, 0); heat(0, 9999); war(); key(); ";
  }

  /** The size of a sheet, its bits, and its numbers by what they do as WAX. */
  private static List<Call> sheetAsks(int s) {
    StringBuilder asks = new StringBuilder("count(1); deed(0, 0); ");
    for (int n = 0; n <= 40; n++) {
      asks.append("copy(" + s + ", 0, " + s + ", 0, " + n + "); ");
    }
    for (int bits = 8; bits <= 32; bits *= 2) {
      int other = (s + 1) % 4;
      asks.append("sheet(" + other + ", " + bits + ", 40); copy(" + s + ", 0, " + other + ", 0, 0); ");
    }
    for (int i = 0; i < 40; i++) {
      asks.append("copy(" + s + ", " + i + ", " + s + ", 0, 1); load(" + s + "); of(0, 2); ");
    }
    return calls(asks.toString());
  }

  // ---- calls as they are written

  private static Map<String, Method> methods() {
    Map<String, Method> methods = new HashMap<>();
    for (Method method : WaxTreaties.class.getMethods()) {
      if (method.getDeclaringClass() == WaxTreaties.class) {
        methods.put(method.getName(), method);
      }
    }
    return methods;
  }

  private static List<Call> calls(String text) {
    List<Call> calls = new ArrayList<>();
    Matcher matcher = CALL.matcher(text);
    int at = 0;
    while (at < text.length() && !text.substring(at).isBlank()) {
      if (!matcher.find(at) || matcher.start() != at) {
        throw new IllegalArgumentException("no calls: " + text.substring(at));
      }
      at = matcher.end();
      String name = matcher.group(1);
      if (matcher.group(3) != null) {
        addShort(calls, name, matcher.group(3));
      } else if (METHODS.containsKey(name)) {
        calls.add(new Call(name, arguments(matcher.group(2)), matcher.group(4) == null ? null : number(matcher.group(4))));
      } else {
        throw new IllegalArgumentException("no call: " + name);
      }
    }
    return calls;
  }

  private static void addShort(List<Call> calls, String name, String text) {
    switch (name) {
      case "at":
        for (int left = Integer.parseInt(text); left > 0; left -= 100) {
          calls.add(new Call("hours", new int[] {Math.min(100, left)}, null));
        }
        break;
      case "say":
        for (String item : text.split(";")) {
          addFeeds(calls, item);
          calls.add(new Call("text", new int[0], 1));
        }
        break;
      case "tape":
        addFeeds(calls, text);
        break;
      default:
        throw new IllegalArgumentException("no short form: " + name);
    }
  }

  private static void addFeeds(List<Call> calls, String text) {
    for (int i = 0; i < text.length(); i += 4) {
      int n = Math.min(4, text.length() - i);
      int bytes = 0;
      for (int j = 0; j < n; j++) {
        bytes = bytes << 8 | text.charAt(i + j) & 255;
      }
      calls.add(new Call("feed", new int[] {bytes, n}, null));
    }
  }

  private static int[] arguments(String text) {
    if (text.isBlank()) {
      return new int[0];
    }
    return Arrays.stream(text.split(",")).mapToInt(word -> number(word.trim())).toArray();
  }

  private static int number(String word) {
    if (word.equals("MAX")) {
      return Integer.MAX_VALUE;
    }
    if (word.equals("MIN")) {
      return Integer.MIN_VALUE;
    }
    int finding = FINDINGS.indexOf(word);
    return finding >= 0 ? FIRST_FINDING - finding : Integer.parseInt(word);
  }
}
