import java.io.IOException;
import java.nio.file.Files;
import java.nio.file.Path;
import java.util.regex.Matcher;
import java.util.regex.Pattern;

/** What of LANGUAGE.md can be seen in the words of the source; each check says its rule's number. */
public final class LanguageTest {
  private static final String[][] BANNED = {
    {"1", "\\bpackage\\s+\\w"},
    {"2", "::"},
    {"3", "\\bObject\\b"},
    {"4", "\\bimport\\s+(?!java\\.util\\.(ArrayList|List|Iterator|Arrays|\\*);)"},
    {"4", "\\bMath\\.\\w+Exact\\b"},
    {"4", "\\bSystem\\.(?!arraycopy)"},
    {"5", "\\bstatic\\s*\\{"},
    {"6", "\\b(throw|throws|try|catch|finally|synchronized|assert)\\b"},
    {"6", "\\bhashCode\\b"},
    {"10", "\"\\s*\\+|\\+\\s*\""}
  };
  // The rules say "some sixty" and "some twelve".
  private static final int LONGEST_METHOD = 70;
  private static final int MOST_CLASSES = 14;
  private static final int MOST_PARAMETERS = 7;

  private static final Check check = new Check("language");

  public static void main(String[] args) throws IOException {
    String source = Files.readString(Path.of("src/main/java/WaxTreaties.java"));
    String code = source.replaceAll("(?s)/\\*.*?\\*/", "").replaceAll("//[^\n]*", "");
    for (String[] banned : BANNED) {
      Matcher matcher = Pattern.compile(banned[1]).matcher(code);
      check.that("rule " + banned[0] + ": stands there: " + banned[1], !matcher.find());
    }
    lambdas(code);
    check.that("rule 4: signs are 1 to 127", code.chars().allMatch(c -> c > 0 && c < 128));
    Matcher statics = Pattern.compile("\\bstatic\\b[^;{(]*[;=]").matcher(code);
    while (statics.find()) {
      check.that("rule 5: not final: " + statics.group(), statics.group().contains("final"));
    }
    long classes = Pattern.compile("\\b(class|enum|interface|record)\\s+\\w").matcher(code).results().count();
    check.that("rule 11: as many classes: " + classes, classes >= 1 && classes <= MOST_CLASSES);
    methods(code);
    check.end();
  }

  /** An arrow may stand behind a case alone. */
  private static void lambdas(String code) {
    for (String line : code.split("\n")) {
      if (line.contains("->")) {
        check.that("rule 2: a lambda: " + line, line.matches("\\s*(case\\b.*|default\\s*)->.*"));
      }
    }
  }

  private static void methods(String code) {
    Pattern head = Pattern.compile("\n( +)((public|private|static|final) )*[\\w<>]+(\\[\\])* \\w+\\(([^)]*)\\) \\{\n");
    Matcher matcher = head.matcher(code);
    while (matcher.find()) {
      int end = code.indexOf("\n" + matcher.group(1) + "}", matcher.end());
      long lines = end < 0 ? 0 : code.substring(matcher.end(), end).lines().count();
      check.that("rule 11: too long: " + matcher.group(), lines <= LONGEST_METHOD);
      check.that("rule 11: too many parameters: " + matcher.group(),
          matcher.group(5).split(",").length <= MOST_PARAMETERS);
    }
  }
}
