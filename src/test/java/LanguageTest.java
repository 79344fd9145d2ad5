import java.io.IOException;
import java.lang.reflect.Field;
import java.lang.reflect.Modifier;
import java.nio.file.Files;
import java.nio.file.Path;
import java.util.ArrayList;
import java.util.List;
import java.util.Map;
import java.util.TreeMap;
import java.util.regex.Matcher;
import java.util.regex.Pattern;

/** What of LANGUAGE.md can be seen in the words of the source; each check says its rule's number. */
public final class LanguageTest {
  private static final String[][] BANNED = {
    {"1", "\\bpackage\\s+\\w"},
    {"2", "::"},
    {"3", "\\bObject\\b"},
    {"4", "\\bimport\\s+(?!java\\.util\\.(ArrayList|List|Iterator|Arrays|\\*);)"},
    {"4", "\\bMath\\.\\w+Exact\\b"},
    {"4", "\\bSystem\\.(?!arraycopy)"},
    {"5", "\\bstatic\\s*\\{"},
    {"6", "\\b(throw|throws|try|catch|finally|synchronized|assert)\\b"},
    {"6", "\\bhashCode\\b"},
    {"10", "\"\\s*\\+|\\+\\s*\""}
  };
  // The rules say "some sixty" and "some twelve".
  private static final int LONGEST_METHOD = 70;
  private static final int MOST_CLASSES = 14;
  private static final int MOST_PARAMETERS = 7;
  private static final int MOST_FIELDS = 22;
  private static final int DEEPEST = 8;
  private static final Pattern HEAD = Pattern.compile(
      "\n( +)((public|private|static|final) )*[\\w<>]+(\\[\\])* (\\w+)\\(([^)]*)\\) \\{\n");

  private static final Check check = new Check("language");

  public static void main(String[] args) throws IOException {
    String source = Files.readString(Path.of("src/main/java/WaxTreaties.java"));
    String code = source.replaceAll("(?s)/\\*.*?\\*/", "").replaceAll("//[^\n]*", "");
    for (String[] banned : BANNED) {
      Matcher matcher = Pattern.compile(banned[1]).matcher(code);
      check.that("rule " + banned[0] + ": stands there: " + banned[1], !matcher.find());
    }
    lambdas(code);
    check.that("rule 4: signs are 1 to 127", code.chars().allMatch(c -> c > 0 && c < 128));
    Matcher statics = Pattern.compile("\\bstatic\\b[^;{(]*[;=]").matcher(code);
    while (statics.find()) {
      check.that("rule 5: not final: " + statics.group(), statics.group().contains("final"));
    }
    long classes = Pattern.compile("\\b(class|enum|interface|record)\\s+\\w").matcher(code).results().count();
    check.that("rule 11: as many classes: " + classes, classes >= 1 && classes <= MOST_CLASSES);
    methods(code);
    depths(code);
    fields(WaxTreaties.class);
    check.end();
  }

  /** An arrow may stand behind a case alone. */
  private static void lambdas(String code) {
    for (String line : code.split("\n")) {
      if (line.contains("->")) {
        check.that("rule 2: a lambda: " + line, line.matches("\\s*(case\\b.*|default\\s*)->.*"));
      }
    }
  }

  private static void methods(String code) {
    Matcher matcher = HEAD.matcher(code);
    while (matcher.find()) {
      check.that("rule 11: too long: " + matcher.group(), body(code, matcher).lines().count() <= LONGEST_METHOD);
      check.that("rule 11: too many parameters: " + matcher.group(),
          matcher.group(6).split(",").length <= MOST_PARAMETERS);
    }
  }

  private static String body(String code, Matcher head) {
    int end = code.indexOf("\n" + head.group(1) + "}", head.end());
    return end < 0 ? "" : code.substring(head.end(), end);
  }

  /** Each method bears a name of its own, so names tell which calls which. */
  private static void depths(String code) {
    Map<String, String> bodies = new TreeMap<>();
    Matcher matcher = HEAD.matcher(code);
    while (matcher.find()) {
      String was = bodies.put(matcher.group(5), body(code, matcher));
      check.that("rule 1: two methods are called " + matcher.group(5), was == null);
    }
    for (String name : bodies.keySet()) {
      check.that("rules 8, 11: too deep, or a recursion: " + name, depth(name, bodies, 1) <= DEEPEST);
    }
  }

  private static int depth(String name, Map<String, String> bodies, int above) {
    int deepest = above;
    List<String> called = new ArrayList<>();
    Matcher matcher = Pattern.compile("\\b(\\w+)\\(").matcher(bodies.get(name));
    while (matcher.find()) {
      if (bodies.containsKey(matcher.group(1)) && !called.contains(matcher.group(1)) && above <= DEEPEST) {
        called.add(matcher.group(1));
        deepest = Math.max(deepest, depth(matcher.group(1), bodies, above + 1));
      }
    }
    return deepest;
  }

  private static void fields(Class<?> of) {
    int fields = 0;
    for (Field field : of.getDeclaredFields()) {
      fields += Modifier.isStatic(field.getModifiers()) ? 0 : 1;
    }
    check.that("rule 11: as many fields: " + of + " " + fields, fields <= MOST_FIELDS);
    for (Class<?> inside : of.getDeclaredClasses()) {
      fields(inside);
    }
  }
}
