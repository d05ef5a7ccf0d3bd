import java.nio.file.Path;
import java.util.ArrayList;
import java.util.List;

/**
 * What the tests of boundary cases have in common. Each test begins with says(), which names the promise (or the
 * term) and its sentence; every answer behind it is told with the case that it stands for.
 */
abstract class Bounds {
  static final int LOW = -1000000;
  static final int BEYOND = LOW - 1;
  static final int NONE = LOW - 2;
  static final int STATE = LOW - 3;
  static final int FULL = LOW - 4;
  static final int KIND = LOW - 5;
  static final int PARTED = LOW - 6;
  static final int MIN = Integer.MIN_VALUE;
  static final int MAX = Integer.MAX_VALUE;
  static final int EAST = 0;
  static final int NORTH = 1;
  static final int WEST = 2;
  static final int SOUTH = 3;
  static final int STRAIGHT = 0;
  static final int TURNED = 1;

  static final Tally TALLY = new Tally("BoundariesTest");
  static final Document DOCUMENT = new Document(Path.of("../shared/DOC.md"));

  private static String sentence = "";

  /** Calls that bring a new land into a state. */
  interface Acts {
    void on(TurnedLand x);
  }

  /** One call and its answer. */
  interface Asks {
    long of(TurnedLand x);
  }

  /** What follows stands for these sentences of a promise. */
  static void says(int promise, String... sentences) {
    saysPart("Promise " + promise, sentences);
  }

  /** What follows stands for these sentences of the Terms, of the number told. */
  static void term(int number, String... sentences) {
    saysPart("Terms " + number, sentences);
  }

  static void saysPart(String part, String... sentences) {
    sentence = part + ": \"" + String.join("\" \"", sentences) + "\"";
    for (String s : sentences) TALLY.is(part + " says: " + s, DOCUMENT.says(part, s));
  }

  static void due(String about, long want, long got) {
    TALLY.due(sentence + ", " + about + ":", got, want);
  }

  /** An answer in a land that is new but for some acts. */
  static void due(String about, long want, Acts ahead, Asks asked) {
    due(about, want, asked.of(landOf(ahead)));
  }

  static TurnedLand landOf(Acts ahead) {
    TurnedLand x = new TurnedLand();
    ahead.on(x);
    return x;
  }

  /** The call answers the ERROR; told() tells of it; and nothing else is other than in a land without the call. */
  static void refused(String about, int error, Acts ahead, Asks asked) {
    due(about, error, ahead, asked);
    TurnedLand with = landOf(ahead);
    TurnedLand without = landOf(ahead);
    asked.of(with);
    for (int k = 1; k <= 6; k++) {
      due(about + ", told(" + k + ")", without.told(k) + (LOW - k == error ? 1 : 0), with.told(k));
    }
    changesNothing(about, ahead, asked);
  }

  /** Behind the call all looks as in a land without it. */
  static void changesNothing(String about, Acts ahead, Asks asked) {
    int looks = 0;
    for (Looks.Look look : Looks.ALL) {
      TurnedLand one = landOf(ahead);
      asked.of(one);
      List<Integer> seen = Looks.seen(look, one);
      boolean same = seen.equals(Looks.seen(look, landOf(ahead)));
      TALLY.is(sentence + ", " + about + ": something has changed behind the call, look " + looks, same);
      looks++;
    }
  }

  /** The same refused call in a land that is new, in one where there is some of all, and in a full one. */
  static void refusedEverywhere(String about, int error, Asks asked) {
    refused(about + " (a new land)", error, Bounds::nothing, asked);
    refused(about + " (some of all)", error, Bounds::some, asked);
    refused(about + " (a full land)", error, Bounds::full, asked);
  }

  static int edge(int square, int side) {
    return 4 * square + side;
  }

  static TurnedLand land(int... costs) {
    TurnedLand x = new TurnedLand();
    for (int cost : costs) x.square(cost);
    return x;
  }

  static int feed(TurnedLand x, String text) {
    int taped = x.count(6);
    for (int i = 0; i < text.length(); i += 8) {
      int n = Math.min(8, text.length() - i);
      long word = 0;
      for (int k = n - 1; k >= 0; k--) word = word << 8 | text.charAt(i + k);
      taped = x.feed(word, n);
    }
    return taped;
  }

  static int text(TurnedLand x, int use, String text) {
    feed(x, text);
    return x.text(use);
  }

  static void tell(TurnedLand x, int... numbers) {
    for (int number : numbers) x.tell(number);
  }

  static void fill(TurnedLand x, int sheet, int bits, int... numbers) {
    x.sheet(sheet, bits, numbers.length);
    for (int i = 0; i < numbers.length; i++) x.put(sheet, i, numbers[i]);
  }

  /** The BODIES of THE TRACE as far as body() answers. */
  static List<Integer> trace(TurnedLand x) {
    List<Integer> bodies = new ArrayList<>();
    for (int i = 0; x.body(i) != NONE && i < 40; i++) bodies.add(x.body(i));
    return bodies;
  }

  static void nothing(TurnedLand x) {
  }

  /** How many calls some() makes, each helper's own ones counted. */
  static final int CALLS_OF_SOME = 63;

  /** Some of all: SQUARES 0, 1, 2 in a ring that turns, 3 joined to itself, 4 alone; behind an IMAGE of another state. */
  static void some(TurnedLand x) {
    for (int cost : new int[] {5, 7, 3, 9}) x.square(cost);
    x.join(edge(0, EAST), edge(1, WEST), STRAIGHT);
    x.join(edge(1, EAST), edge(2, WEST), STRAIGHT);
    x.walk(1, 0, 1);
    x.person(7);
    x.thing(4, 77, 0);
    x.doubt(2);
    x.fact(0, 0);
    text(x, 0, "d");
    feed(x, "h+1");
    tell(x, 0, 2);
    x.seed(99);
    x.image();
    x.square(2);
    x.turn(1, TURNED);
    x.join(edge(2, EAST), edge(0, WEST), STRAIGHT);
    x.join(edge(3, EAST), edge(3, WEST), TURNED);
    x.set(0, 0, 3);
    x.set(0, 3, 12);
    x.walk(3, 0, 111);
    x.walk(4, 1, 1);
    x.walk(5, 4, 1);
    x.person(5);
    x.person(0);
    x.cross(2, EAST);
    x.thing(1, 40, 1);
    x.doubt(5);
    x.fact(1, 1);
    text(x, 0, "*c+j*4");
    text(x, 1, "w-a*3+s");
    feed(x, "7+s*2");
    x.check(0);
    tell(x, 0, 2);
    fill(x, 0, 8, 1, 5, 1, 3, 7, 0);
    fill(x, 1, 16, 9, 13, 0);
    fill(x, 2, 32, 11, 15, 1);
    x.stroll(1, 5);
    x.voice(1, 2, 9);
  }

  /** As much of all as there may be: all EDGES joined, the bytes of THE TAPE a TEXT of USE 0. */
  static void full(TurnedLand x) {
    for (int i = 0; i < 8; i++) x.square(10 * i + 9);
    for (int i = 0; i < 16; i++) x.join(i, 31 - i, i % 2);
    for (int i = 0; i < 10; i++) x.walk(i % 7, i % 8, 12341234 - i % 2);
    for (int i = 0; i < 6; i++) x.person(2 * i);
    for (int i = 0; i < 6; i++) x.thing(15 - i, 9999 - i, i % 2);
    for (int i = 0; i < 12; i++) x.fact(i % 10, i % 2);
    x.doubt(0xFC00);
    for (int i = 0; i < 24; i++) x.tell(i);
    text(x, 1, "w*9999");
    feed(x, "10" + "+1".repeat(28) + "+c");
    x.image();
    for (int sheet = 0; sheet < 4; sheet++) {
      x.sheet(sheet, 8 << Math.min(2, sheet), 24);
      for (int i = 0; i < 6; i++) x.put(sheet, i, i % 3 == 2 ? 1 : 6 * sheet + i);
    }
    x.voice(6, 3, 50);
  }

  /** A JOIN that was and is no more. */
  static void parted(TurnedLand x) {
    x.square(1);
    x.join(0, 1, STRAIGHT);
    x.part();
  }

  /** Some of all, but JOINS: no WALK can be gone. */
  static void someParted(TurnedLand x) {
    some(x);
    for (int j = 0; j < 4; j++) x.part();
  }

  /** Some of much, but no IMAGE. */
  static void neverKept(TurnedLand x) {
    threeBands(x);
    x.walk(3, 0, 1);
    x.set(0, 3, 5);
    x.person(2);
    x.cross(0, WEST);
    x.thing(3, 60, 0);
    x.doubt(3);
    x.fact(0, 1);
    text(x, 0, "c+9");
    text(x, 1, "w-1");
    feed(x, "d*2");
    tell(x, 0, 1);
    fill(x, 1, 16, 1, 5, 1);
    x.seed(1234);
    x.voice(0, 2, 8);
  }

  /** Three SQUARES, each joined to itself so that who crosses comes home turned. */
  static void threeBands(TurnedLand x) {
    for (int s = 0; s < 3; s++) {
      x.square(1);
      x.join(edge(s, EAST), edge(s, WEST), TURNED);
    }
  }
}
