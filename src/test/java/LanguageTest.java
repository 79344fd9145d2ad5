import java.io.IOException;
import java.nio.file.Files;
import java.nio.file.Path;
import java.util.regex.Matcher;
import java.util.regex.Pattern;

/** What of LANGUAGE.md can be seen in the words of the source: words that may not stand, lengths. */
public final class LanguageTest {
  private static final String[] BANNED = {
    "\\b(throw|throws|try|catch|finally|synchronized|assert|import|package|native|volatile|transient)\\b",
    "->", "::", "\\bprotected\\b", "\\bObject\\b", "\\bSystem\\.(?!arraycopy)", "\\bMath\\.\\w+Exact\\b",
    "\\b(hashCode|toString|equals)\\b\\s*\\(", "@", "\\bstatic\\s*\\{", "\\bthis\\b\\s*\\)", "\\bvar\\b",
    "\\bnew int\\[[a-z]", "\"\\s*\\+", "\\+\\s*\""
  };
  private static final int LONGEST_METHOD = 60;
  private static final int MOST_PARAMETERS = 7;

  private static final Check check = new Check("language");

  public static void main(String[] args) throws IOException {
    String source = Files.readString(Path.of("src/main/java/WaxTreaties.java"));
    String code = source.replaceAll("(?s)/\\*.*?\\*/", "").replaceAll("//[^\n]*", "");
    for (String banned : BANNED) {
      Matcher matcher = Pattern.compile(banned).matcher(code);
      check.that("stands there: " + banned, !matcher.find());
    }
    check.that("signs are 1 to 127", code.chars().allMatch(c -> c > 0 && c < 128));
    Matcher statics = Pattern.compile("\\bstatic\\b[^;{(]*[;=]").matcher(code);
    while (statics.find()) {
      check.that("not final: " + statics.group(), statics.group().contains("final"));
    }
    methods(code);
    check.end();
  }

  private static void methods(String code) {
    Pattern head = Pattern.compile("\n( +)((public|private|static|final) )*\\w+(\\[\\])? \\w+\\(([^)]*)\\) \\{\n");
    Matcher matcher = head.matcher(code);
    int found = 0;
    while (matcher.find()) {
      found++;
      int end = code.indexOf("\n" + matcher.group(1) + "}", matcher.end());
      long lines = code.substring(matcher.end(), end).lines().count();
      check.that("too long: " + matcher.group(), lines <= LONGEST_METHOD);
      check.that("too many parameters: " + matcher.group(), matcher.group(5).split(",").length <= MOST_PARAMETERS);
    }
    check.that("methods are found", found > 49);
  }
}
