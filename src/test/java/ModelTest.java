import java.lang.reflect.Method;
import java.util.Arrays;
import java.util.Comparator;
import java.util.Random;

/** Runs of calls drawn by a told seed, each answered by the class and by the model. */
public final class ModelTest {
  private static final int RUNS = 250;
  private static final int CALLS = 512;
  private static final int[] EDGES = {
    -1, 0, 1, 2, 3, 5, 6, 7, 8, 9, 10, 12, 13, 23, 24, 25, 39, 40, 41, 99, 100, 101, 255, 256, 9999, 10000,
    Integer.MAX_VALUE, Integer.MIN_VALUE, -2, -1000001
  };

  // What many other acts need.
  private static final String[] OFTEN = {"renew", "hold", "sheet", "write"};

  private static final Check check = new Check("model");
  private static Method[] methods;
  private static int[] answered;
  private static int calls;
  private static int edgeRate;

  public static void main(String[] args) throws ReflectiveOperationException {
    methods = Arrays.stream(WaxTreaties.class.getDeclaredMethods())
        .filter(m -> java.lang.reflect.Modifier.isPublic(m.getModifiers()))
        .sorted(Comparator.comparing(Method::getName)).toArray(Method[]::new);
    answered = new int[methods.length];
    int runs = args.length > 0 ? Integer.parseInt(args[0]) : RUNS;
    int first = args.length > 1 ? Integer.parseInt(args[1]) : 1;
    for (int run = first; run < first + runs; run++) {
      if (!isRunFine(run)) {
        break;
      }
    }
    for (int m = 0; m < methods.length; m++) {
      check.that(methods[m].getName() + " has answered no finding often enough", answered[m] >= runs / 3);
    }
    check.end();
  }

  private static boolean isRunFine(int run) throws ReflectiveOperationException {
    Random random = new Random(run);
    WaxTreaties x = new WaxTreaties();
    Model model = new Model();
    // In some runs few hours go, so that little has run.
    int haste = random.nextInt(4);
    edgeRate = run % 5 == 0 ? 3 : 40;
    calls = 0;
    if (run % 8 == 0) {
      late(x, model, random);
    }
    // A text takes up to 120 calls.
    while (calls < CALLS - 122) {
      int m = random.nextInt(methods.length);
      String name = methods[m].getName();
      if ((name.equals("hours") || name.equals("days")) && random.nextInt(4) < haste) {
        continue;
      }
      if (name.equals("feed") && random.nextInt(4) != 0) {
        feedText(x, model, text(random), random);
        m = indexOf("text");
      }
      if (random.nextInt(3) == 0 && !isCallFine(run, x, model, indexOf(OFTEN[random.nextInt(OFTEN.length)]), random)) {
        return false;
      }
      if (!isCallFine(run, x, model, m, random)) {
        return false;
      }
    }
    return true;
  }

  private static int indexOf(String name) {
    for (int m = 0; m < methods.length; m++) {
      if (methods[m].getName().equals(name)) {
        return m;
      }
    }
    return -1;
  }

  private static boolean isCallFine(int run, WaxTreaties x, Model model, int m, Random random)
      throws ReflectiveOperationException {
    int[] arguments = arguments(methods[m].getName(), methods[m].getParameterCount(), random, model);
    boolean isClear = !methods[m].getName().equals("least") || model.isLeastClear(arguments[0], arguments[1]);
    return !isClear || isSame(run, x, model, m, arguments);
  }

  private static boolean isSame(int run, WaxTreaties x, Model model, int m, int[] arguments)
      throws ReflectiveOperationException {
    Object[] boxed = Arrays.stream(arguments).boxed().toArray();
    int got = (Integer) methods[m].invoke(x, boxed);
    int want = model.call(methods[m].getName(), arguments);
    calls++;
    check.due("run " + run + ", " + methods[m].getName() + Arrays.toString(arguments), got, want);
    if (want > -1000001 || want < -1000007) {
      answered[m]++;
    }
    return got == want;
  }

  /** Near the last hour. */
  private static void late(WaxTreaties x, Model model, Random random) {
    int hour = 9600 + random.nextInt(400);
    while (hour > 0) {
      int n = Math.min(100, hour);
      x.hours(n);
      calls++;
      model.call("hours", new int[] {n});
      hour -= n;
    }
  }

  private static void feedText(WaxTreaties x, Model model, String text, Random random) {
    x.wipe();
    calls++;
    model.call("wipe", new int[0]);
    for (int i = 0; i < text.length(); ) {
      int n = Math.min(1 + random.nextInt(4), text.length() - i);
      int bytes = random.nextInt();
      for (int j = 0; j < n; j++) {
        bytes = bytes << 8 | text.charAt(i + j);
      }
      x.feed(bytes, n);
      calls++;
      model.call("feed", new int[] {bytes, n});
      i += n;
    }
  }

  private static String text(Random random) {
    StringBuilder text = new StringBuilder();
    int items = 1 + random.nextInt(5);
    for (int i = 0; i < items; i++) {
      text.append(i == 0 ? "" : random.nextBoolean() ? ";" : " ; ");
      switch (random.nextInt(7)) {
        case 0: text.append("shutter ").append(random.nextInt(6)).append(random.nextBoolean() ? " open" : " shut"); break;
        case 1: text.append("ice ").append(random.nextInt(6)).append(' ').append(random.nextInt(100)); break;
        case 2: text.append("candle ").append(random.nextInt(6)).append(random.nextBoolean() ? " here" : " gone"); break;
        case 3: text.append("summer ").append(random.nextInt(41)); break;
        default:
          text.append(Model.WORDS[random.nextInt(7)]).append(' ').append(random.nextInt(6));
          text.append(random.nextBoolean() ? " wax " + (15 + random.nextInt(50)) : "");
          text.append(random.nextInt(3) == 0 ? " on " + random.nextInt(3) : "");
      }
    }
    if (random.nextInt(3) == 0) {
      int at = random.nextInt(text.length());
      String signs = "abz;0159 !on\0\u00e9";
      if (random.nextBoolean()) {
        text.setCharAt(at, signs.charAt(random.nextInt(signs.length())));
      } else if (random.nextBoolean()) {
        text.setLength(at);
      } else {
        text.insert(at, signs.charAt(random.nextInt(signs.length())));
      }
    }
    // Blanks stand between tokens; whether ahead of the first and behind the last is not said.
    String all = text.length() > 120 ? text.substring(0, 120) : text.toString();
    return all.strip();
  }

  /** Mostly such as can stand; now and then an edge. */
  private static int[] arguments(String name, int many, Random random, Model model) {
    int[] a = new int[many];
    int[] last = lasts(name, many);
    int deeds = model.call("count", new int[] {1});
    for (int i = 0; i < many; i++) {
      boolean isDeed = last[i] == 8;
      a[i] = random.nextInt(isDeed ? Math.max(1, deeds) : last[i] + 1);
      if (random.nextInt(edgeRate) == 0) {
        a[i] = EDGES[random.nextInt(EDGES.length)];
      }
    }
    if (many > 1 && (name.equals("ice") || name.equals("blocks") || name.equals("bears") || name.equals("opened"))
        && a[many - 1] == 0) {
      a[many - 1] = 1;
    }
    if (name.equals("shelf") && a[1] == 1 && a[2] == 1) {
      a[2] = random.nextInt(100);
    }
    if (name.equals("seed") || (name.equals("write") && random.nextBoolean())) {
      a[many - 1] = random.nextInt();
    }
    // Of no numbers it isn't said from where on they are too few.
    if (name.equals("copy") && a[4] == 0) {
      a[1] = 0;
      a[3] = 0;
    }
    if (name.equals("sheet") && random.nextInt(8) != 0) {
      a[1] = new int[] {0, 8, 8, 8, 8, 8, 16, 32}[random.nextInt(8)];
    }
    if (name.equals("change") && random.nextInt(8) != 0) {
      a[1] = new int[] {0, 1, 2, 3, 5}[random.nextInt(5)];
      a[2] = random.nextInt(new int[] {7, 6, 100, 25, 0, 8}[a[1]]) - (a[1] == 5 ? 1 : 0);
    }
    return a;
  }

  /** The greatest of each argument that can stand; 8 for a deed. */
  private static int[] lasts(String name, int many) {
    switch (name) {
      case "deed": return new int[] {6, 5};
      case "of": return new int[] {8, 9};
      case "change": return new int[] {8, 5, 40};
      case "shelf": return new int[] {5, 2, 1};
      case "heat": return new int[] {5, 9999};
      case "sun": return new int[] {9999};
      case "summer": return new int[] {40};
      case "lie": return new int[] {5};
      case "now": return new int[] {6};
      case "ahead": return new int[] {100, 7};
      case "hours": return new int[] {30};
      case "ice": return new int[] {99, 100};
      case "swap": case "law": case "nail": return new int[] {100};
      case "enemy": case "worst": return new int[] {4, 100};
      case "blocks": case "bears": case "least": return new int[] {8, 100};
      case "opened": return new int[] {7, 24};
      case "days": return new int[] {2};
      case "feed": return new int[] {255, 4};
      case "hold": return new int[] {5, 8};
      case "as": return new int[] {5, 2};
      case "sheet": return new int[] {3, 32, 12};
      case "write": return new int[] {3, 8, 99};
      case "copy": return new int[] {3, 3, 3, 3, 4};
      case "load": return new int[] {3};
      case "judge": return new int[] {3, 8};
      case "count": return new int[] {7};
      case "status": return new int[] {6};
      case "seed": return new int[] {1};
      default: {
        int[] last = new int[many];
        Arrays.fill(last, 8);
        return last;
      }
    }
  }
}
