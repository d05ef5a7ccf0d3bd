import java.io.IOException;
import java.io.UncheckedIOException;
import java.nio.file.Files;
import java.nio.file.Path;
import java.util.ArrayList;
import java.util.List;
import java.util.Map;
import java.util.TreeMap;

/** The document by its parts ("Promise 2", "Terms 1", ..), and which of its sentences a test has named. */
final class Document {
  private final Map<String, String> parts = new TreeMap<>();
  private final Map<String, boolean[]> named = new TreeMap<>();

  Document(Path file) {
    List<String> lines;
    try {
      lines = Files.readAllLines(file);
    } catch (IOException e) {
      throw new UncheckedIOException(e);
    }
    String heading = "";
    String part = "";
    for (String line : lines) {
      if (line.startsWith("```") || line.startsWith("Ahead of the calls")) continue;
      if (line.startsWith("## ")) {
        heading = line.substring(3).replaceAll(":.*", "");
        part = heading.equals("Terms") ? "Terms 0" : heading;
      } else {
        if (heading.equals("Terms") && line.matches("\\d\\. .*")) part = "Terms " + line.charAt(0);
        parts.merge(part, line, (ahead, next) -> ahead + " " + next);
      }
    }
    parts.replaceAll((name, text) -> plain(text));
    parts.forEach((name, text) -> named.put(name, new boolean[text.length()]));
  }

  private static String plain(String text) {
    return text.replaceAll("\\s+", " ").trim();
  }

  /** Whether the sentence stands in that part; it counts as named from then on. */
  boolean says(String part, String sentence) {
    String text = parts.getOrDefault(part, "");
    int at = text.indexOf(sentence);
    boolean stands = at >= 0 && !sentence.isEmpty();
    while (at >= 0 && !sentence.isEmpty()) {
      for (int i = at; i < at + sentence.length(); i++) named.get(part)[i] = true;
      at = text.indexOf(sentence, at + 1);
    }
    return stands;
  }

  /** What no test has named in a part, behind the call's head or the number of the term. */
  List<String> unnamed(String part) {
    String text = parts.getOrDefault(part, "");
    boolean[] is = named.getOrDefault(part, new boolean[0]);
    List<String> left = new ArrayList<>();
    StringBuilder run = new StringBuilder();
    for (int i = text.indexOf("`: ") < 0 ? text.indexOf(' ') + 1 : text.indexOf("`: ") + 3; i < text.length(); i++) {
      if (!is[i]) run.append(text.charAt(i));
      if (!is[i] && i + 1 < text.length()) continue;
      if (!run.toString().isBlank()) left.add(run.toString().trim());
      run.setLength(0);
    }
    return left;
  }
}
