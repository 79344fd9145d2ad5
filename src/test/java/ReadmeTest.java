import java.io.IOException;
import java.lang.reflect.Method;
import java.nio.file.Files;
import java.nio.file.Path;
import java.util.ArrayList;
import java.util.Arrays;
import java.util.List;
import java.util.regex.MatchResult;
import java.util.regex.Matcher;
import java.util.regex.Pattern;

/** What README.md tells of the class is so: its example, its findings, its calls, its text. */
public final class ReadmeTest {
  private static final Check check = new Check("readme");

  public static void main(String[] args) throws IOException, ReflectiveOperationException {
    String readme = Files.readString(Path.of("README.md"));
    String document = Files.readString(Path.of("../shared/DOC.md"));
    example(readme);
    findings(readme);
    calls(readme, document);
    text(readme);
    check.end();
  }

  private static void example(String readme) throws ReflectiveOperationException {
    WaxTreaties x = new WaxTreaties();
    List<MatchResult> calls = all("\nx\\.(\\w+)\\(([^)]*)\\); +// (-?\\d+) ", readme);
    check.that("an example stands there", calls.size() > 20);
    check.due("lines of the example that make calls", all("\nx\\.", readme).size(), calls.size());
    for (MatchResult call : calls) {
      int[] arguments = numbers(call.group(2));
      check.due(call.group(1) + Arrays.toString(arguments), ask(x, call.group(1), arguments),
          Integer.parseInt(call.group(3)));
    }
  }

  private static int[] numbers(String row) {
    return row.isEmpty() ? new int[0] : Arrays.stream(row.split(", ")).mapToInt(Integer::decode).toArray();
  }

  private static int ask(WaxTreaties x, String name, int[] arguments) throws ReflectiveOperationException {
    Class<?>[] types = new Class<?>[arguments.length];
    Arrays.fill(types, int.class);
    Method method = WaxTreaties.class.getMethod(name, types);
    return (Integer) method.invoke(x, Arrays.stream(arguments).boxed().toArray());
  }

  private static void findings(String readme) {
    List<MatchResult> rows = all("\n\\| ([A-Z]+) \\| (-\\d+) \\| (\\d) \\|", readme);
    check.due("findings told", rows.size(), CoverTest.WORDS.size());
    for (MatchResult row : rows) {
      int number = CoverTest.WORDS.indexOf(row.group(1));
      check.due("the answer of " + row.group(1), Integer.parseInt(row.group(2)), CoverTest.FIRST_FINDING - number);
      check.due("the status of " + row.group(1), Integer.parseInt(row.group(3)), number);
    }
  }

  /** The document's face, in its order, each call with the findings of its promise. */
  private static void calls(String readme, String document) {
    List<String> face = new ArrayList<>();
    for (MatchResult call : all("    public int (\\w+\\([^)]*\\));", document)) {
      face.add(call.group(1).replace("int ", ""));
    }
    List<MatchResult> rows = all("\n\\| `(\\w+\\([^)]*\\))` \\| [^|\n]+ \\| ([A-Z, ]*)\\|", readme);
    List<String> told = new ArrayList<>();
    for (MatchResult row : rows) {
      told.add(row.group(1));
    }
    check.that("calls are those of the document: " + told, told.equals(face) && !face.isEmpty());
    // The first promise is the new object's.
    for (int i = 0; i < rows.size() && i + 2 < CoverTest.FINDINGS.length; i++) {
      check.that("findings of " + told.get(i), begins(rows.get(i).group(2)).equals(CoverTest.FINDINGS[i + 2]));
    }
  }

  private static String begins(String findings) {
    StringBuilder begins = new StringBuilder();
    for (String word : findings.trim().split(", ")) {
      int number = CoverTest.WORDS.indexOf(word);
      begins.append(number < 0 ? "" : CoverTest.BEGINS.substring(number, number + 1));
    }
    return begins.toString();
  }

  private static void text(String readme) {
    List<MatchResult> texts = all("```text\n(.*)\n```", readme);
    check.due("texts told", texts.size(), 1);
    for (MatchResult told : texts) {
      int items = told.group(1).split(";").length;
      check.due("the text", Check.read(new WaxTreaties(), told.group(1)), items);
    }
  }

  private static List<MatchResult> all(String pattern, String text) {
    Matcher matcher = Pattern.compile(pattern).matcher(text);
    List<MatchResult> found = new ArrayList<>();
    while (matcher.find()) {
      found.add(matcher.toMatchResult());
    }
    return found;
  }
}
