import java.io.IOException;
import java.lang.reflect.Field;
import java.lang.reflect.Method;
import java.lang.reflect.Modifier;
import java.nio.file.Files;
import java.nio.file.Path;
import java.util.ArrayList;
import java.util.List;
import java.util.Set;
import java.util.TreeSet;
import java.util.regex.Matcher;
import java.util.regex.Pattern;
import java.util.stream.Collectors;
import java.util.stream.Stream;

/** Rules of LANGUAGE.md that can be seen in the source or by reflection; the others stay with the reader. */
public final class LanguageTest {
  private static final String FACE = "agree() across(int) as(int,int) body(int) bring(int) check(int) cost(int,int)"
      + " count(int) cross(int,int) doubt(int) fact(int,int) feed(long,int) first(int,int) forget() gone(int,int,int)"
      + " image() join(int,int,int) joinIs(int,int) joins(int) known(int) land(int) meet(int,int,int)"
      + " move(int,int,int,int,int) part() person(int) personIs(int,int) plain() put(int,int,int) reached(int)"
      + " restore() seed(int) set(int,int,int) sheet(int,int,int) soonest(int,int) square(int) stops(int)"
      + " stroll(int,int) tell(int) test() text(int) thing(int,int,int) thingIs(int,int) told(int) turn(int,int)"
      + " untell(int) voice(int,int,int) walk(int,int,int) walkIs(int,int)";
  private static final Tally TALLY = new Tally("LanguageTest");

  public static void main(String[] args) throws IOException {
    String source = withoutComments(Files.readString(Path.of("src/main/java/TurnedLand.java")));
    face();
    classesInside();
    words(source);
    arrivals(source);
    sizes(source);
    TALLY.close();
  }

  private static String withoutComments(String source) {
    Matcher comment = Pattern.compile("(?s)/\\*.*?\\*/|//[^\n]*").matcher(source);
    return comment.replaceAll(found -> "\n".repeat((int) found.group().chars().filter(c -> c == '\n').count()));
  }

  private static String signature(Method m) {
    String given = Stream.of(m.getParameterTypes()).map(Class::getName).collect(Collectors.joining(","));
    return m.getName() + "(" + given + ")";
  }

  private static void face() {
    Class<?> land = TurnedLand.class;
    TALLY.is("the class is public and final", Modifier.toString(land.getModifiers()).equals("public final"));
    TALLY.is("one public constructor", land.getDeclaredConstructors().length == 1
        && land.getConstructors().length == 1 && land.getConstructors()[0].getParameterCount() == 0);
    Set<String> found = new TreeSet<>();
    for (Method m : land.getDeclaredMethods()) {
      if (Modifier.isPrivate(m.getModifiers())) continue;
      TALLY.is(m + " is public and answers an int", Modifier.isPublic(m.getModifiers()) && m.getReturnType() == int.class);
      found.add(signature(m));
    }
    TALLY.is("the face is " + found, found.equals(new TreeSet<>(List.of(FACE.split(" ")))));
    for (Field f : land.getDeclaredFields()) TALLY.is(f + " is private", Modifier.isPrivate(f.getModifiers()));
  }

  private static void classesInside() {
    List<Class<?>> all = new ArrayList<>(List.of(TurnedLand.class.getDeclaredClasses()));
    for (Class<?> c : all) {
      TALLY.is(c + " is static", Modifier.isStatic(c.getModifiers()));
      TALLY.is(c + " isn't public or protected", (c.getModifiers() & (Modifier.PUBLIC | Modifier.PROTECTED)) == 0);
    }
    all.add(TurnedLand.class);
    TALLY.is("at most twelve classes", all.size() <= 12);
    Set<String> names = Stream.of(FACE.split(" ")).map(s -> s.substring(0, s.indexOf('('))).collect(Collectors.toSet());
    for (Class<?> c : all) {
      int fields = 0;
      for (Field f : c.getDeclaredFields()) {
        if (!Modifier.isStatic(f.getModifiers())) fields++;
        else TALLY.is(f + " is a constant", isConstant(f));
      }
      TALLY.is(c + " has at most twenty fields", fields <= 20);
      for (Method m : c.getDeclaredMethods()) {
        TALLY.is(m + " takes at most seven", m.getParameterCount() <= 7);
        boolean isPublic = Modifier.isPublic(m.getModifiers());
        TALLY.is(m + " bears no public one's name", isPublic || !names.contains(m.getName()));
      }
    }
  }

  private static boolean isConstant(Field f) {
    Set<Class<?>> kinds = Set.of(int.class, long.class, boolean.class, char.class, String.class,
        int[].class, long[].class, char[].class, byte[].class);
    return Modifier.isFinal(f.getModifiers()) && kinds.contains(f.getType());
  }

  private static void words(String source) {
    String[] none = {
      "\\b(throw|throws|try|catch|synchronized|assert|while|do|volatile|native|transient|goto|var|yield)\\b",
      "->", "::", "Exact\\b", "\\b(package|Random|Thread|currentTimeMillis|nanoTime|hashCode|getClass|Object)\\b",
      "\\bSystem\\.(?!arraycopy\\b)", "\\bArrays\\.(?!(copyOf|copyOfRange|fill)\\b)", "\\bstatic\\s*\\{", "\"", "@",
      "\\bMath\\.(?!(max|min|abs|floorDiv|floorMod)\\b)", "\\bInteger\\.(?!(compare|bitCount|MIN_VALUE|MAX_VALUE)\\b)"
    };
    for (String word : none) {
      Matcher m = Pattern.compile(word).matcher(source);
      boolean found = m.find();
      TALLY.is("no " + word + (found ? ", but " + m.group() : ""), !found);
    }
    List<String> imports = source.lines().filter(line -> line.startsWith("import")).toList();
    TALLY.is("imports: " + imports, imports.equals(List.of("import java.util.Arrays;")));
    TALLY.is("signs 1 to 127", source.chars().allMatch(c -> c >= 1 && c <= 127));
  }

  /** All objects are made with the land, none by a call; all loops count. */
  private static void arrivals(String source) {
    for (String line : source.split("\n")) {
      if (line.contains("new ")) {
        TALLY.is("made by a field alone: " + line, line.matches("\\s*(private )?final [\\w\\[\\]]+ \\w+ = new .*;"));
      }
      if (line.matches(".*\\bfor \\(.*")) {
        TALLY.is("counts: " + line, line.matches(".*for \\(int \\w+ = .*; .*(<|<=|>|>=) .*; \\w+(\\+\\+|--| \\+= \\d)\\) \\{"));
      }
    }
  }

  private static void sizes(String source) {
    String[] lines = source.split("\n", -1);
    int begin = -1;
    String indent = "";
    for (int i = 0; i < lines.length; i++) {
      TALLY.is("line " + (i + 1) + " is short", lines[i].length() <= 120);
      Matcher m = Pattern.compile("^( +)(?!.*\\bclass\\b)[\\w\\[\\]][^=;]*\\) \\{$").matcher(lines[i]);
      boolean heads = m.find() && !lines[i].trim().matches("(if|for|switch|else|} else).*");
      if (heads) {
        begin = i;
        indent = m.group(1);
      }
      if (begin >= 0 && lines[i].equals(indent + "}")) {
        TALLY.is("method at line " + (begin + 1) + " has at most forty lines", i - begin < 40);
        begin = -1;
      }
    }
  }
}
