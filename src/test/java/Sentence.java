import java.nio.file.Files;
import java.nio.file.Path;
import java.util.BitSet;
import java.util.LinkedHashMap;
import java.util.Map;

/** The sentence of the document whose test is running: it names the answers, and must stand in the document. */
final class Sentence {
  private static final Path DOCUMENT = Path.of("../shared/DOC.md");
  private static final Map<String, String> PARTS = new LinkedHashMap<>();
  private static final Map<String, BitSet> TESTED = new LinkedHashMap<>();
  private static String name = "";

  private Sentence() {
  }

  /** From here on answers are tests of these words, which stand once in a part (I to IV, REFUSALS, Promise n). */
  static void of(String part, String words) {
    name = part + ": \"" + words + "\"";
    String text = PARTS.get(part);
    if (PARTS.isEmpty()) {
      return;
    }
    int at = text == null ? -1 : text.indexOf(words);
    Due.due(name + " stands in the document", at >= 0 ? 1 : 0, 1);
    if (at >= 0) {
      Due.due(name + " stands there once", text.indexOf(words, at + 1), -1);
      TESTED.get(part).set(at, at + words.length());
    }
  }

  static void due(String call, long got, long want) {
    Due.due(name + ": " + call, got, want);
  }

  /** Without a document beside the project the sentences are not looked up. */
  static void readDocument() throws Exception {
    if (!Files.isReadable(DOCUMENT)) {
      System.out.println("no " + DOCUMENT + ": its sentences are not looked up");
      return;
    }
    String part = "";
    for (String line : Files.readAllLines(DOCUMENT)) {
      String heading = headingOf(line);
      if (heading != null) {
        part = heading;
      }
      if (!line.startsWith("```") && !line.startsWith("#")) {
        String words = line.replaceFirst("^==== \\w+\\. ", "").replaceFirst("^`[^`]*`: ", "").trim();
        PARTS.merge(part, words, (before, more) -> (before + " " + more).trim());
      }
    }
    PARTS.keySet().removeIf(one -> !one.matches("I|II|III|IV|REFUSALS|Promise \\d+"));
    for (String one : PARTS.keySet()) {
      TESTED.put(one, new BitSet());
    }
    Due.due("parts of the document", PARTS.size(), 5 + 32);
  }

  private static String headingOf(String line) {
    if (line.startsWith("==== ")) {
      return line.substring(5, line.indexOf('.'));
    }
    if (line.startsWith("REFUSALS")) {
      return "REFUSALS";
    }
    return line.startsWith("## ") ? line.substring(3).replaceFirst(":.*", "") : null;
  }

  /** Whether each word of the parts that bind has had a test. */
  static void allTested() {
    for (Map.Entry<String, String> part : PARTS.entrySet()) {
      String text = part.getValue();
      StringBuilder untested = new StringBuilder();
      for (int i = 0; i < text.length(); i++) {
        boolean isTested = TESTED.get(part.getKey()).get(i);
        untested.append(isTested || ".,;: ".indexOf(text.charAt(i)) >= 0 ? ' ' : text.charAt(i));
      }
      String rest = untested.toString().trim().replaceAll(" +", " ");
      Due.due(part.getKey() + " has no test of \"" + rest + "\"", rest.isEmpty() ? 0 : 1, 0);
    }
  }
}
