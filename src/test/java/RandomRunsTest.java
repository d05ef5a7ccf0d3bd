import java.util.ArrayList;
import java.util.Arrays;
import java.util.Collections;
import java.util.List;
import java.util.Random;

/** Runs of 512 calls by fixed seeds: the program has to answer each call as PlainLand does. */
public final class RandomRunsTest {
  private static final int RUNS = 1500;
  private static final String[] OFTEN = {
    "join", "join", "turn", "walk", "walk", "walkIs", "walkIs", "gone", "set", "soonest", "first", "meet", "bring",
    "thing", "person", "cross", "stroll", "fact", "agree", "known", "known", "test", "voice", "voice", "body",
    "land", "land", "plain", "text", "text", "check", "reached"
  };

  private final Random random;
  private final TurnedLand land = new TurnedLand();
  private final PlainLand plain = new PlainLand();
  private final List<String> calls = new ArrayList<>();
  private final boolean wild;
  private boolean isAsDue = true;

  private RandomRunsTest(int seed) {
    random = new Random(seed);
    wild = seed % 8 == 7;
  }

  public static void main(String[] args) {
    Tally tally = new Tally("RandomRunsTest");
    int runs = args.length > 0 ? Integer.parseInt(args[0]) : RUNS;
    for (int seed = 0; seed < runs; seed++) {
      RandomRunsTest run = new RandomRunsTest(seed);
      run.go();
      tally.is("seed " + seed + ": " + run.lastCalls(), run.isAsDue);
    }
    tally.close();
  }

  private String lastCalls() {
    return String.join(", ", calls.subList(Math.max(0, calls.size() - 12), calls.size()));
  }

  private void go() {
    int squares = random.nextInt(9);
    for (int i = 0; i < squares; i++) call("square", 1 + random.nextInt(random.nextBoolean() ? 5 : 99));
    joinMany();
    while (calls.size() < 512 && isAsDue) step();
  }

  /** Pairs of EDGES by lot: often nearly all, as walks seldom go far in a land of rims. */
  private void joinMany() {
    List<Integer> edges = new ArrayList<>();
    for (int e = 0; e < 4 * count(0); e++) edges.add(e);
    Collections.shuffle(edges, random);
    int most = random.nextBoolean() ? edges.size() : random.nextInt(edges.size() + 1);
    int turned = random.nextInt(4);
    for (int i = 0; i + 1 < most; i += 2) {
      call("join", edges.get(i), edges.get(i + 1), random.nextInt(4) < turned ? 1 : 0);
    }
  }

  private long call(String name, long... args) {
    if (!isAsDue || calls.size() >= 512) return 0;
    long want = plain.call(name, args);
    long got;
    try {
      got = Caller.call(land, name, args);
    } catch (IllegalStateException thrown) {
      got = Long.MIN_VALUE;
    }
    calls.add(name + Arrays.toString(args) + " " + got + (got == want ? "" : " due " + want));
    isAsDue = got == want;
    return want;
  }

  private int count(int what) {
    return (int) plain.call("count", new long[] {what});
  }

  private int upTo(int size) {
    if (random.nextInt(wild ? 6 : 40) == 0) return odd();
    return size == 0 ? random.nextInt(2) : random.nextInt(size);
  }

  private int odd() {
    int[] odds = {-1, -2, 4, 5, 7, 8, 16, 32, 60, 61, 100, 9999, 10000, Integer.MAX_VALUE, Integer.MIN_VALUE};
    return random.nextInt(3) == 0 ? random.nextInt() : odds[random.nextInt(odds.length)];
  }

  private int edge() {
    return upTo(4 * count(0));
  }

  private int place() {
    return upTo(2 * count(0));
  }

  private int steps() {
    int n = random.nextInt(20) == 0 ? 9 : random.nextInt(9);
    int digits = 0;
    for (int i = 0; i < n; i++) digits = digits * 10 + 1 + random.nextInt(4);
    if (random.nextInt(30) == 0) digits = random.nextInt(3) == 0 ? odd() : digits + 5;
    return digits;
  }

  private void step() {
    boolean often = random.nextInt(3) > 0;
    String[] names = often ? OFTEN : Caller.names();
    String name = names[random.nextInt(names.length)];
    if (name.equals("text")) {
      tellText();
    } else if (name.equals("check") && random.nextInt(4) > 0) {
      tellPlaces();
    } else if (name.equals("joins")) {
      tellJoins();
    } else if (name.equals("part") && random.nextInt(3) == 0) {
      while (count(1) > 0 && random.nextInt(8) > 0 && calls.size() < 512) call("part");
      joinMany();
    } else if (name.equals("tell") && random.nextInt(3) == 0) {
      for (int i = 0; i < 26; i++) call("tell", place());
    } else if (random.nextInt(wild ? 10 : 60) == 0) {
      long[] args = new long[Caller.kinds(name).length];
      for (int i = 0; i < args.length; i++) args[i] = odd();
      call(name, args);
    } else {
      call(name, args(name));
    }
    if (name.equals("voice")) {
      call("count", 8);
      for (int i = 0; i < 3; i++) call("body", upTo(Math.max(1, count(8))));
    }
  }

  private long[] args(String name) {
    switch (name) {
      case "square": return new long[] {1 + upTo(99)};
      case "cost": return new long[] {upTo(count(0)), 1 + upTo(99)};
      case "join": return new long[] {edge(), edge(), upTo(2)};
      case "joinIs": return new long[] {upTo(count(1)), upTo(3)};
      case "turn": return new long[] {upTo(count(1)), upTo(2)};
      case "across": return new long[] {edge()};
      case "land": return new long[] {upTo(6)};
      case "feed": return new long[] {random.nextLong(), random.nextInt(11) - 1};
      case "text": case "untell": return new long[] {upTo(2)};
      case "soonest": case "first": return new long[] {place(), place()};
      case "reached": case "person": return new long[] {place()};
      case "walk": return new long[] {upTo(7), upTo(count(0)), steps()};
      case "walkIs": return new long[] {upTo(count(2)), random.nextInt(3) > 0 ? 4 : upTo(5)};
      case "as": return new long[] {upTo(count(2)), upTo(7)};
      case "set": return setting();
      case "gone": return new long[] {upTo(count(2)), upTo(2), upTo(3)};
      case "stops": case "check": return new long[] {upTo(count(2))};
      case "fact": return new long[] {upTo(count(2)), upTo(2)};
      case "personIs": return new long[] {upTo(count(3)), upTo(2)};
      case "cross": return new long[] {upTo(count(3)), upTo(4)};
      case "stroll": return new long[] {upTo(count(3)), random.nextInt(64) - 1};
      case "meet": return new long[] {upTo(count(3)), upTo(count(3)), upTo(3)};
      case "thing": return new long[] {place(), random.nextBoolean() ? upTo(10000) : upTo(60), upTo(2)};
      case "thingIs": return new long[] {upTo(count(4)), upTo(5)};
      case "bring": return new long[] {upTo(count(3))};
      case "doubt": return new long[] {random.nextInt(1 << count(1)) & random.nextInt()};
      case "known": return new long[] {upTo(count(1))};
      case "seed": return new long[] {random.nextInt()};
      case "voice": return new long[] {upTo(count(2)), upTo(4), random.nextInt(4) == 0 ? odd() : random.nextInt(99)};
      case "body": return new long[] {upTo(Math.max(1, count(8)))};
      case "sheet": return new long[] {upTo(4), 8 * (1 << random.nextInt(4)) % 64, random.nextInt(27) - 1};
      case "put": return new long[] {upTo(4), upTo(12), random.nextInt(3) == 0 ? random.nextInt() : edge()};
      case "move": return new long[] {upTo(4), upTo(12), upTo(4), upTo(12), upTo(8)};
      case "tell": return new long[] {place()};
      case "count": return new long[] {upTo(11)};
      case "told": return new long[] {1 + upTo(6)};
      default: return new long[0];
    }
  }

  private long[] setting() {
    int walk = upTo(count(2));
    if (random.nextInt(10) == 0) return new long[] {walk, upTo(5), upTo(7)};
    if (random.nextBoolean()) return new long[] {walk, 0, upTo(7)};
    int hours = (int) call("gone", walk, 0, 1);
    return new long[] {walk, 3, random.nextInt(4) == 0 || hours < 0 ? -1 + upTo(50) : hours};
  }

  private void tellText() {
    String t = value(random.nextInt(5));
    int use = upTo(2);
    if (use == 1) t = t.replace('c', 'w').replace('d', 'a').replace('h', 's').replace('j', 's');
    if (random.nextInt(3) == 0 && !t.isEmpty()) t = spoiled(t);
    if (t.length() > 60 && random.nextInt(4) > 0) t = t.substring(0, random.nextInt(61));
    for (int i = 0; i < t.length(); i += 8) {
      long word = random.nextLong();
      int n = Math.min(8, t.length() - i);
      for (int k = 0; k < n; k++) word = word & ~(255L << 8 * k) | (long) t.charAt(i + k) << 8 * k;
      call("feed", word, n);
    }
    call("text", use);
  }

  private String spoiled(String t) {
    int at = random.nextInt(t.length());
    String signs = "|&<=>+-*/%!()cdhjwas0123456789 \u00e9";
    String put = random.nextInt(3) == 0 ? "" : "" + signs.charAt(random.nextInt(signs.length()));
    return t.substring(0, at) + put + t.substring(at + random.nextInt(2));
  }

  private String value(int depth) {
    int kind = random.nextInt(depth <= 0 ? 3 : 9);
    if (kind == 0) return "" + random.nextInt(random.nextBoolean() ? 10 : 10000);
    if (kind <= 2) return "" + "cdhj".charAt(random.nextInt(4));
    if (kind == 3) return "!" + value(depth - 1);
    if (kind == 4) return "(" + value(depth - 1) + ")";
    String signs = "|&<=>+-*/%";
    return value(depth - 1) + signs.charAt(random.nextInt(signs.length())) + value(depth - 1);
  }

  /** The right begin and mostly the right end; between them a guess. */
  private void tellPlaces() {
    int walk = upTo(count(2));
    int end = (int) call("gone", walk, 0, 0);
    int square = (int) call("walkIs", walk, 1);
    int n = (int) call("walkIs", walk, 2);
    call("tell", 2 * square);
    for (int i = 1; i < n; i++) call("tell", place());
    if (n > 0) call("tell", random.nextInt(5) == 0 ? place() : end);
    if (random.nextInt(6) == 0) call("tell", place());
    call("check", walk);
  }

  private void tellJoins() {
    int sheet = upTo(4);
    call("sheet", sheet, 8 << random.nextInt(3), random.nextInt(25));
    int n = random.nextInt(10);
    for (int i = 0; i < n; i++) call("put", sheet, i, i % 3 == 2 ? random.nextInt(2) : edge());
    call("joins", sheet);
  }
}
