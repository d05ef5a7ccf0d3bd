import java.io.IOException;
import java.nio.file.Files;
import java.nio.file.Path;
import java.util.ArrayList;
import java.util.List;
import java.util.Map;
import java.util.Set;
import java.util.TreeMap;
import java.util.TreeSet;
import java.util.concurrent.TimeUnit;
import java.util.regex.Matcher;
import java.util.regex.Pattern;
import java.util.stream.Collectors;
import java.util.stream.Stream;

/** README.md tells what is so: its calls and their answers, its programs and commands, the ERRORS, the tests. */
public final class ReadmeTest {
  private static final Tally TALLY = new Tally("ReadmeTest");
  private static final Pattern MADE = Pattern.compile("TurnedLand (\\w+) = new TurnedLand\\(\\);");
  private static final Pattern CALLED = Pattern.compile("(\\w+)\\.(\\w+)\\(([^()]*)\\); +// (-?\\d+)(?: .*)?");
  private static final String CLASS_FILE = "src/main/java/TurnedLand.java";
  private static final String[] ERRORS = {"BEYOND", "NONE", "STATE", "FULL", "KIND", "PARTED"};

  /** A fenced part of the page. */
  private record Block(String language, List<String> lines) {
    String text() {
      return lines.stream().map(line -> line + "\n").collect(Collectors.joining());
    }

    boolean isProgram() {
      return language.equals("java") && text().contains("public static void main");
    }
  }

  private ReadmeTest() {
  }

  public static void main(String[] args) throws IOException, InterruptedException {
    String page = Files.readString(Path.of("README.md"));
    List<Block> blocks = blocks(page);
    calls(blocks);
    programs(blocks);
    errors(page);
    told(page);
    tests(page);
    TALLY.close();
  }

  private static List<Block> blocks(String page) {
    List<Block> found = new ArrayList<>();
    Matcher m = Pattern.compile("(?ms)^```(\\w*)\n(.*?)^```$").matcher(page);
    while (m.find()) found.add(new Block(m.group(1), m.group(2).lines().toList()));
    return found;
  }

  // ---- calls with their answers

  /** All lines of all examples are calls that answer what stands behind them; each call of the class is among them. */
  private static void calls(List<Block> blocks) {
    Map<String, TurnedLand> lands = new TreeMap<>();
    Map<String, PlainLand> plain = new TreeMap<>();
    Map<String, Integer> many = new TreeMap<>();
    Set<String> shown = new TreeSet<>();
    for (Block block : blocks) {
      if (!block.language().equals("java") || block.isProgram()) continue;
      for (String line : block.lines()) {
        Matcher made = MADE.matcher(line);
        Matcher called = CALLED.matcher(line);
        if (made.matches()) {
          lands.put(made.group(1), new TurnedLand());
          plain.put(made.group(1), new PlainLand());
        } else if (called.matches() && lands.containsKey(called.group(1))) {
          String land = called.group(1);
          answers(line, lands.get(land), plain.get(land), called);
          many.merge(land, 1, Integer::sum);
          shown.add(called.group(2));
        } else {
          TALLY.is("not a call with its answer: " + line, false);
        }
      }
    }
    TALLY.is("an object of the page is used for " + many + " calls", many.values().stream().allMatch(n -> n <= 512));
    TALLY.is("calls that the page shows: " + shown, shown.equals(new TreeSet<>(List.of(Caller.names()))));
  }

  private static void answers(String line, TurnedLand land, PlainLand plain, Matcher called) {
    String name = called.group(2);
    long[] args = Stream.of(called.group(3).split(", *")).filter(arg -> !arg.isEmpty())
        .mapToLong(arg -> Long.decode(arg.replaceAll("L$", ""))).toArray();
    long want = Long.parseLong(called.group(4));
    TALLY.due(line.trim() + ":", Caller.call(land, name, args), want);
    TALLY.due(line.trim() + ": PlainLand", plain.call(name, args), want);
    for (int k = 1; k <= ERRORS.length; k++) {
      boolean isIt = want == -1000000 - k;
      TALLY.is("the ERROR is named: " + line.trim(), !isIt || line.contains(ERRORS[k - 1]));
    }
  }

  // ---- programs and commands

  /** What the page says of compiling and running is done as it stands, in a directory that holds the sources alone. */
  private static void programs(List<Block> blocks) throws IOException, InterruptedException {
    Path place = Files.createTempDirectory("readme");
    try {
      copySources(place);
      StringBuilder commands = new StringBuilder();
      StringBuilder prints = new StringBuilder();
      StringBuilder examples = new StringBuilder();
      for (Block block : blocks) {
        if (block.language().equals("sh")) commands.append(block.text());
        else if (block.language().equals("text")) prints.append(block.text());
        else if (block.isProgram()) Files.writeString(place.resolve(nameOf(block) + ".java"), block.text());
        else if (block.language().equals("java")) examples.append(block.text());
        else TALLY.is("a fence without a known language: " + block, false);
      }
      Files.writeString(place.resolve("Examples.java"), "final class Examples { void all() {\n" + examples + "} }\n");
      commands.append("javac -Xlint:all -Werror -cp out -d out Examples.java\n");
      runs(place, commands.toString(), prints.toString());
    } finally {
      deleteAll(place);
    }
  }

  private static String nameOf(Block program) {
    Matcher m = Pattern.compile("public final class (\\w+) \\{").matcher(program.text());
    return m.find() ? m.group(1) : "Nameless";
  }

  private static void copySources(Path place) throws IOException {
    List<Path> sources;
    try (Stream<Path> files = Files.walk(Path.of("src"))) {
      sources = files.filter(file -> file.toString().endsWith(".java")).toList();
    }
    for (Path source : sources) {
      Path to = place.resolve(source.toString());
      Files.createDirectories(to.getParent());
      Files.copy(source, to);
    }
  }

  private static void runs(Path place, String commands, String prints) throws IOException, InterruptedException {
    Path output = place.resolve("output");
    Process process = new ProcessBuilder("sh", "-e", "-c", commands).directory(place.toFile())
        .redirectErrorStream(true).redirectOutput(output.toFile()).start();
    boolean ended = process.waitFor(5, TimeUnit.MINUTES);
    if (!ended) process.destroyForcibly();
    String printed = Files.readString(output);
    TALLY.is("the page's commands end well, but: " + printed, ended && process.exitValue() == 0);
    TALLY.is("the page's program prints " + prints + "but: " + printed, printed.startsWith(prints));
    TALLY.is("the page's test passes, but: " + printed, printed.contains(" passed, 0 failed"));
  }

  private static void deleteAll(Path place) throws IOException {
    List<Path> files;
    try (Stream<Path> found = Files.walk(place)) {
      files = found.sorted((one, other) -> other.getNameCount() - one.getNameCount()).toList();
    }
    for (Path file : files) Files.delete(file);
  }

  // ---- what the page says besides

  /** The table of ERRORS: each one's answer, its name as the document has it, the call that tells how many there were. */
  private static void errors(String page) {
    String document = String.join(" ", new Document(Path.of("../shared/DOC.md")).lines("Terms 0"));
    for (int k = 1; k <= ERRORS.length; k++) {
      String name = ERRORS[k - 1];
      TALLY.is("LOW - " + k + " is " + name, document.contains("LOW - " + k + " " + name));
      String row = "(?m)^\\| " + (-1000000 - k) + " \\| " + name + " \\| [^|]+ \\| `told\\(" + k + "\\)` \\|$";
      TALLY.is("a row of the table for " + name, Pattern.compile(row).matcher(page).find());
    }
    Matcher rows = Pattern.compile("(?m)^\\| -1\\d{6} ").matcher(page);
    TALLY.due("rows of the table of ERRORS", rows.results().count(), ERRORS.length);
  }

  /** What the issue wants told: how the class is compiled, how an object is made, ERRORS, 512 calls, the tests. */
  private static void told(String page) {
    String[] due = {
      "javac -d out " + CLASS_FILE, "new TurnedLand()", "An answer below -1000000 is an ERROR", "at most 512 calls", ".ci/run",
      "../shared/tests", "../shared/DOC.md"
    };
    for (String words : due) TALLY.is("the page says " + words, page.replaceAll("\\s+", " ").contains(words));
  }

  /** Each test is told, and none that isn't there; the script that runs them can be run. */
  private static void tests(String page) throws IOException {
    Set<String> there;
    try (Stream<Path> files = Files.list(Path.of("src/test/java"))) {
      there = files.map(file -> file.getFileName().toString()).filter(name -> name.endsWith("Test.java"))
          .map(name -> name.replace(".java", "")).collect(Collectors.toCollection(TreeSet::new));
    }
    Set<String> told = new TreeSet<>();
    Matcher m = Pattern.compile("(?m)^- `(\\w+Test)`: ").matcher(page);
    while (m.find()) told.add(m.group(1));
    TALLY.is("tests that are there: " + there + ", tests that are told: " + told, there.equals(told));
    TALLY.is(".ci/run can be run", Files.isExecutable(Path.of(".ci/run")));
  }
}
