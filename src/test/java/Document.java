import java.io.IOException;
import java.io.UncheckedIOException;
import java.nio.file.Files;
import java.nio.file.Path;
import java.util.ArrayList;
import java.util.List;
import java.util.Map;
import java.util.Set;
import java.util.TreeMap;

/**
 * The document by its parts ("Title", "What it is", "Terms 1", "Ahead of the calls", "Promise 2", ..), and which of its
 * sentences a test has named.
 */
final class Document {
  private final Map<String, List<String>> lines = new TreeMap<>();
  private final Map<String, String> parts = new TreeMap<>();
  private final Map<String, boolean[]> named = new TreeMap<>();

  Document(Path file) {
    String heading = "Title";
    String part = heading;
    for (String line : linesOf(file)) {
      if (line.startsWith("```") || line.isBlank()) continue;
      if (line.startsWith("## ")) {
        heading = line.substring(3).replaceAll(":.*", "");
        part = heading.equals("Terms") ? "Terms 0" : heading;
      } else if (line.startsWith("Ahead of the calls ")) {
        keep("Ahead of the calls", line);
      } else {
        if (heading.equals("Terms") && line.matches("\\d\\. .*")) part = "Terms " + line.charAt(0);
        keep(part, line);
      }
    }
    lines.forEach((name, itsLines) -> parts.put(name, plain(String.join(" ", itsLines))));
    parts.forEach((name, text) -> named.put(name, new boolean[text.length()]));
  }

  private void keep(String part, String line) {
    lines.computeIfAbsent(part, none -> new ArrayList<>()).add(line);
  }

  static List<String> linesOf(Path file) {
    try {
      return Files.readAllLines(file);
    } catch (IOException e) {
      throw new UncheckedIOException(e);
    }
  }

  private static String plain(String text) {
    return text.replaceAll("\\s+", " ").trim();
  }

  Set<String> parts() {
    return parts.keySet();
  }

  /** The lines of a part as they stand, but empty ones and fences. */
  List<String> lines(String part) {
    return lines.getOrDefault(part, List.of());
  }

  /** Whether the sentence stands in that part; it counts as named from then on. */
  boolean says(String part, String sentence) {
    String text = parts.getOrDefault(part, "");
    int at = text.indexOf(sentence);
    boolean stands = at >= 0 && !sentence.isEmpty();
    while (at >= 0 && !sentence.isEmpty()) {
      for (int i = at; i < at + sentence.length(); i++) named.get(part)[i] = true;
      at = text.indexOf(sentence, at + 1);
    }
    return stands;
  }

  /** What no test has named in a part, behind the number of a term. */
  List<String> unnamed(String part) {
    String text = parts.getOrDefault(part, "");
    boolean[] is = named.getOrDefault(part, new boolean[0]);
    List<String> left = new ArrayList<>();
    StringBuilder run = new StringBuilder();
    for (int i = text.matches("\\d\\. .*") ? 3 : 0; i < text.length(); i++) {
      if (!is[i]) run.append(text.charAt(i));
      if (!is[i] && i + 1 < text.length()) continue;
      if (!run.toString().isBlank()) left.add(run.toString().trim());
      run.setLength(0);
    }
    return left;
  }
}
