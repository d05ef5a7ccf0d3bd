import java.lang.reflect.Constructor;
import java.lang.reflect.Method;
import java.lang.reflect.Modifier;
import java.nio.file.Path;
import java.util.ArrayList;
import java.util.List;
import java.util.Random;
import java.util.regex.Matcher;
import java.util.regex.Pattern;
import java.util.stream.Collectors;
import java.util.stream.Stream;

/** What the document says ahead of, between and behind Terms and promises: what it is, the face, what is free. */
final class FaceBounds extends Bounds {
  private static final List<String> SOURCE = Document.linesOf(Path.of("src/main/java/TurnedLand.java"));

  private FaceBounds() {
  }

  static void all() {
    title();
    joinedEdges();
    waysToAPlace();
    walksThatComeHome();
    handsShaken();
    thingsAlike();
    whatLandItIs();
    howFewJoins();
    walksThatTell();
    drawsTextsRowsImages();
    publicFace();
    headsOfPromises();
    aheadOfTheCalls();
    freeOfState();
    objectsByThemselves();
    nothingBeyond();
  }

  private static void title() {
    saysPart("Title", "# TurnedLand");
    due("the class of that name", 1, TurnedLand.class.getName().equals("TurnedLand") ? 1 : 0);
  }

  private static void joinedEdges() {
    saysPart("What it is", "Left-handed again: a land of squares whose edges are joined, some straight, some so that who"
        + " crosses comes out turned about;");
    TurnedLand x = land(5, 7);
    x.join(edge(0, EAST), edge(1, WEST), STRAIGHT);
    x.join(edge(0, NORTH), edge(1, SOUTH), TURNED);
    x.person(0);
    due("by a straight JOIN", 2, x.cross(0, EAST));
    due("back by a turned one", 1, x.cross(0, SOUTH));
    due("and by both again, home as one was", 0, x.cross(0, EAST) == 3 ? x.cross(0, SOUTH) : -1);
    due("HOURS of all", 24, x.personIs(0, 1));
  }

  private static void waysToAPlace() {
    saysPart("What it is", "ways through it, soonest to a place this way about or that;");
    TurnedLand x = land(5, 7);
    x.join(edge(0, EAST), edge(1, WEST), STRAIGHT);
    x.join(edge(1, NORTH), edge(1, SOUTH), TURNED);
    due("this way about", 5, x.soonest(0, 2));
    due("that way about", 12, x.soonest(0, 3));
    due("from the other HAND", 12, x.soonest(1, 2));
    due("by its first EDGE", EAST, x.first(0, 3));
    due("all that is reached", 15, x.reached(0));
  }

  private static void walksThatComeHome() {
    saysPart("What it is", "walks of kinds that come home, as one was or turned about, or meet;");
    TurnedLand x = land(1, 1);
    x.join(edge(0, EAST), edge(1, WEST), STRAIGHT);
    x.join(edge(0, NORTH), edge(1, SOUTH), TURNED);
    int[][] walks = {{2, 0, 13, 1}, {2, 0, 14, 0}, {3, 0, 14, 1}, {3, 0, 13, 0}, {1, 0, 14, 1}, {4, 0, 14, 0}, {4, 0, 1313, 1}};
    for (int[] w : walks) x.walk(w[0], w[1], w[2]);
    x.walk(0, 0, 0);
    for (int i = 0; i < walks.length; i++) {
      due("KIND " + walks[i][0] + " by " + walks[i][2], walks[i][3], x.walkIs(i, 4));
    }
  }

  private static void handsShaken() {
    saysPart("What it is", "people who stand somewhere this way about, shake hands;");
    TurnedLand x = land(4);
    x.join(EAST, WEST, TURNED);
    x.person(0);
    x.person(1);
    due("in one SQUARE, but not this way about", 0, x.meet(0, 1, 0));
    due("HOURS until they can", 4, x.meet(0, 1, 1));
    x.cross(1, WEST);
    due("this way about", 1, x.meet(0, 1, 0));
    due("no HOURS then", 0, x.meet(0, 1, 1));
  }

  private static void thingsAlike() {
    saysPart("What it is", "things that are alike both ways or not;");
    TurnedLand x = land(1);
    x.thing(0, 60, 1);
    x.thing(0, 60, 0);
    due("alike, to this HAND", 60, x.thingIs(0, 3));
    due("alike, to that HAND", 60, x.thingIs(0, 4));
    due("not alike, to this HAND", 60, x.thingIs(1, 3));
    due("not alike, to that HAND", 30, x.thingIs(1, 4));
  }

  /** One SQUARE, joined to itself in all ways but for symmetry: join() as one, other, turned; then land(0) to land(5). */
  private static void whatLandItIs() {
    saysPart("What it is", "what land it is, by corners, edges, rims;");
    landIs("a disc", new int[] {}, 4, 4, 1, 1, 1, 0);
    landIs("a ring", new int[] {0, 2, 0}, 2, 3, 0, 1, 2, 0);
    landIs("a turned band", new int[] {0, 2, 1}, 2, 3, 0, 1, 1, 1);
    landIs("a cone", new int[] {0, 1, 0}, 3, 3, 1, 1, 1, 0);
    landIs("a turned band of sides that meet", new int[] {0, 1, 1}, 2, 3, 0, 1, 1, 1);
    landIs("a torus", new int[] {0, 2, 0, 1, 3, 0}, 1, 2, 0, 1, 0, 0);
    landIs("a Klein bottle", new int[] {0, 2, 1, 1, 3, 0}, 1, 2, 0, 1, 0, 1);
    landIs("a projective plane", new int[] {0, 2, 1, 1, 3, 1}, 2, 2, 1, 1, 0, 1);
    landIs("a sphere", new int[] {0, 1, 0, 2, 3, 0}, 3, 2, 2, 1, 0, 0);
  }

  private static void landIs(String name, int[] joins, int... want) {
    TurnedLand x = land(1);
    for (int i = 0; i < joins.length; i += 3) x.join(joins[i], joins[i + 1], joins[i + 2]);
    for (int what = 0; what <= 5; what++) due(name + ", land(" + what + ")", want[what], x.land(what));
  }

  private static void howFewJoins() {
    saysPart("What it is", "how few joins cut make it plain;");
    int[] want = {0, 1, 2, NONE};
    for (int bands = 0; bands <= 3; bands++) {
      TurnedLand x = land(1, 1, 1);
      for (int s = 0; s < bands; s++) x.join(edge(s, EAST), edge(s, WEST), TURNED);
      due(bands + " turned bands", want[bands], x.plain());
    }
  }

  private static void walksThatTell() {
    saysPart("What it is", "joins of which nobody knows, told by walks, the walk that tells most;");
    TurnedLand x = landOf(Bounds::threeBands);
    x.walk(0, 0, 11);
    x.walk(0, 1, 1);
    x.doubt(3);
    due("ways", 4, x.agree());
    due("nobody knows", 2, x.known(1));
    due("the WALK that tells most", 1, x.test());
    x.fact(1, 0);
    due("ways, told by a WALK", 2, x.agree());
    due("known then", 0, x.known(1));
    due("not known still", 2, x.known(0));
  }

  private static void drawsTextsRowsImages() {
    saysPart("What it is", "walks by draws, laws in texts, rows, images.");
    TurnedLand x = land(5, 7);
    fill(x, 0, 8, 0, 6, 1, 1, 7, 0);
    due("an IMAGE without JOINS", 1, x.image());
    due("JOINS by a row", 2, x.joins(0));
    x.person(0);
    x.seed(7);
    due("by draws: north, south, east", 3, x.stroll(0, 3));
    due("a law", 1, text(x, 0, "d*10"));
    due("HOURS by a law", 70, x.soonest(0, 2));
    due("restored", 2, x.restore());
    due("no way any more", NONE, x.soonest(0, 2));
  }

  /** The class as the document writes it: the same lines, in their order, and by reflection the same methods, no other. */
  private static void publicFace() {
    List<String> face = DOCUMENT.lines("The public face");
    saysPart("The public face", face.stream().map(String::trim).toArray(String[]::new));
    List<String> found = new ArrayList<>();
    for (String line : SOURCE) {
      if (line.matches("(  )?public .*\\{")) found.add(line.trim().replaceAll(" \\{$", ""));
    }
    due("lines of the face", 50, face.size() - 1);
    due("public lines of the class", 50, found.size());
    for (int i = 0; i < face.size() - 1; i++) {
      String want = face.get(i).trim().replaceAll("( \\{|;)$", "");
      String got = i < found.size() ? found.get(i) : "nothing";
      TALLY.is("the face: \"" + want + "\", but " + got, got.equals(want));
    }
    due("public final", Modifier.PUBLIC | Modifier.FINAL, TurnedLand.class.getModifiers());
    due("public methods", 48, publicMethods().size());
    for (Method m : publicMethods()) {
      String given = Stream.of(m.getParameterTypes()).map(Class::getName).collect(Collectors.joining(", "));
      String head = m.getReturnType() + " " + m.getName() + "(" + given + ")";
      boolean stands = face.stream().map(l -> l.trim().replaceAll("(int|long) \\w+(?=[,)])", "$1")).anyMatch(("public " + head + ";")::equals);
      TALLY.is("the face has no " + head, stands);
      due(head + " is public alone", Modifier.PUBLIC, m.getModifiers());
      due(head + " declares exceptions", 0, m.getExceptionTypes().length);
    }
    Constructor<?>[] constructors = TurnedLand.class.getDeclaredConstructors();
    due("constructors", 1, constructors.length);
    due("the constructor is public", Modifier.PUBLIC, constructors[0].getModifiers());
    due("it takes nothing", 0, constructors[0].getParameterCount());
  }

  private static List<Method> publicMethods() {
    return Stream.of(TurnedLand.class.getDeclaredMethods()).filter(m -> Modifier.isPublic(m.getModifiers())).toList();
  }

  /** Each promise is of the call that the face has in its place. */
  private static void headsOfPromises() {
    List<String> face = DOCUMENT.lines("The public face");
    for (int promise = 1; promise <= 49 && promise < face.size(); promise++) {
      String head = face.get(promise).trim().replaceAll("^public |;$", "");
      says(promise, "`" + head + "`:");
    }
  }

  private static void aheadOfTheCalls() {
    List<String> heads = DOCUMENT.lines("Ahead of the calls");
    due("groups of calls", 7, heads.size());
    int called = 0;
    for (String head : heads) {
      saysPart("Ahead of the calls", head);
      Matcher m = Pattern.compile("Ahead of the calls (.*) the interface says: (---- .*)\\.").matcher(head);
      TALLY.is("a group is told by " + head, m.matches());
      List<String> names = List.of(m.group(1).replace("`", "").split(", "));
      called += names.size();
      List<String> found = callsBehind("  // " + m.group(2));
      TALLY.is(head + " but the class has " + found, found.equals(names));
    }
    due("calls in groups", 48, called);
  }

  /** The public methods between a comment and the next one of its form. */
  private static List<String> callsBehind(String comment) {
    List<String> names = new ArrayList<>();
    int at = SOURCE.indexOf(comment);
    for (int i = at + 1; at >= 0 && i < SOURCE.size() && !SOURCE.get(i).startsWith("  // ----"); i++) {
      Matcher m = Pattern.compile("^  public int (\\w+)\\(.*").matcher(SOURCE.get(i));
      if (m.matches()) names.add(m.group(1));
    }
    return names;
  }

  /** What is free must not be felt by any call. */
  private static void freeOfState() {
    saysPart("Not promised", "How the state is held inside the object is free, as are the speed of each call, the text of"
        + " toString and the behaviour of equals and hashCode.");
    for (Acts ahead : List.<Acts>of(Bounds::nothing, Bounds::some, Bounds::full)) {
      changesNothing("toString()", ahead, x -> x.toString().length());
      changesNothing("hashCode()", ahead, x -> x.hashCode());
      changesNothing("equals()", ahead, x -> x.equals(new TurnedLand()) ? 1 : 0);
    }
  }

  /** Not several threads at one object, but one thread at several objects, and several threads at one object each. */
  private static void objectsByThemselves() {
    saysPart("Not promised", "Use of one object from several threads at once is not promised to be safe.");
    List<TurnedLand> lands = new ArrayList<>();
    for (int i = 0; i < 4; i++) lands.add(new TurnedLand());
    for (int s = 0; s < 5; s++) {
      for (int i = 0; i < 4; i++) due("SQUARE " + s + " of object " + i, s, lands.get(i).square(1 + i));
    }
    for (int i = 0; i < 4; i++) {
      due("COST of object " + i, 1 + i, lands.get(i).cost(4, 9));
      due("told(1) of object " + i, 0, lands.get(i).told(1));
      due("an IMAGE of object " + i, NONE, lands.get(i).restore());
      due("z of object " + i, 1, lands.get(i).seed(i));
    }
    for (Looks.Look look : Looks.ALL) {
      TurnedLand one = landOf(Bounds::some);
      landOf(Bounds::full);
      boolean same = Looks.seen(look, one).equals(Looks.seen(look, landOf(Bounds::some)));
      TALLY.is("an object feels what is done to another one", same);
    }
    List<Integer> want = wild(1, 512);
    List<List<Integer>> got = Stream.of(1, 1, 1, 1).parallel().map(seed -> wild(seed, 512)).toList();
    for (List<Integer> one : got) TALLY.is("an object feels another thread's object", one.equals(want));
  }

  private static void nothingBeyond() {
    saysPart("Not promised", "Nothing is promised beyond the answers and state changes described above, and nothing about an"
        + " object after its 512th call.");
    TALLY.is("the same calls have the same answers", wild(3, 512).equals(wild(3, 512)));
    for (int seed = 0; seed < 12; seed++) due("calls that answered, none thrown", 8000, wild(seed, 8000).size());
    TurnedLand x = new TurnedLand();
    for (int i = 0; i < 100000; i++) x.image();
    due("no call throws behind many", 1, x.image() > LOW ? 1 : 0);
  }

  /** The answers of so many calls on an object, whatever they are. */
  private static List<Integer> wild(int seed, int calls) {
    Random random = new Random(seed);
    TurnedLand x = new TurnedLand();
    List<Integer> answers = new ArrayList<>();
    String[] names = Caller.names();
    for (int s = 0; s < seed % 9; s++) x.square(1 + s);
    for (int i = 0; i < calls; i++) {
      String name = names[random.nextInt(names.length)];
      long[] args = new long[Caller.kinds(name).length];
      for (int k = 0; k < args.length; k++) args[k] = wildNumber(random);
      answers.add((int) Caller.call(x, name, args));
    }
    return answers;
  }

  private static long wildNumber(Random random) {
    int[] odd = {MIN, MIN + 1, MAX, MAX - 1, -1, -2, LOW, BEYOND, 31, 32, 33, 255, 256, 65535, 9999, 10000, 11111111};
    switch (random.nextInt(8)) {
      case 0: return odd[random.nextInt(odd.length)];
      case 1: return random.nextInt();
      case 2: return random.nextInt(64) - 2;
      case 3: return random.nextInt(14);
      default: return random.nextInt(4);
    }
  }
}
