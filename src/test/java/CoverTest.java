import java.io.IOException;
import java.nio.file.Files;
import java.nio.file.Path;
import java.util.List;
import java.util.regex.Matcher;
import java.util.regex.Pattern;

/** Each promise has its edge cases, each finding of each act one, and each quotes what the document says. */
public final class CoverTest {
  private static final int PROMISES = 49;
  static final List<String> WORDS = List.of("BEYOND", "FULL", "KIND", "NONE", "STATE", "MISSING", "SIZE");
  static final int FIRST_FINDING = -1000001;
  /** The findings of each promise's act, by their begins; read off the document by eye, once. */
  static final String[] FINDINGS = {
    "", "", "BF", "B", "B", "B", "B", "B", "B", "B", "B", "BS", "B", "BS", "BSN", "SN", "BS", "BS", "BS", "BSN",
    "BSN", "BSN", "BS", "BSN", "BSN", "BSN", "BSN", "B", "B", "", "N", "S", "BS", "BS", "", "BF", "", "", "B", "BMK",
    "BZ", "BM", "BMK", "BM", "BMS", "", "N", "", "B", "B"
  };
  static final String BEGINS = "BFKNSMZ";

  private static final Check check = new Check("cover");

  public static void main(String[] args) throws IOException {
    Edge edge = new Edge("cover");
    ChanceryEdgesTest.cases(edge);
    HoursEdgesTest.cases(edge);
    PlacesEdgesTest.cases(edge);
    EnemyEdgesTest.cases(edge);
    HangEdgesTest.cases(edge);
    TextEdgesTest.cases(edge);
    SpotsEdgesTest.cases(edge);
    ImagesEdgesTest.cases(edge);
    String[] parts = Files.readString(Path.of("../shared/DOC.md")).replaceAll("\\s+", " ").split("## Promise ");
    check.that("the document has its promises", parts.length == PROMISES + 1);
    for (int promise = 1; promise <= PROMISES && promise < parts.length; promise++) {
      cover(edge.told(), promise, parts[0], parts[promise]);
    }
    System.out.println("cover: " + edge.told().size() + " edge cases");
    check.end();
  }

  private static void cover(List<Edge.Told> cases, int promise, String terms, String said) {
    Matcher act = Pattern.compile("`int (\\w+)\\(").matcher(said);
    String name = act.find() ? act.group(1) : "";
    boolean isAny = false;
    boolean[] isFound = new boolean[WORDS.size()];
    for (Edge.Told told : cases) {
      if (told.promise != promise) {
        continue;
      }
      check.that(promise + ": nobody says '" + told.quote + "'", said.contains(told.quote) || terms.contains(told.quote));
      isAny = isAny || promise == 1 || told.act.equals(name);
      int finding = FIRST_FINDING - told.due;
      boolean isFinding = finding >= 0 && finding < WORDS.size();
      check.that(promise + ": a case says what comes behind it", told.behind > 0);
      if (isFinding && told.act.equals(name)) {
        isFound[finding] = true;
      }
    }
    check.that(promise + ": " + name + " has a case", isAny);
    for (int finding = 0; finding < WORDS.size(); finding++) {
      boolean isDue = FINDINGS[promise].indexOf(BEGINS.charAt(finding)) >= 0;
      check.that(promise + ": " + WORDS.get(finding) + " has a case", isFound[finding] || !isDue);
      if (isDue && !name.equals("count")) {
        check.that(promise + ": " + WORDS.get(finding) + " is there", said.contains(WORDS.get(finding)));
      }
    }
  }
}
