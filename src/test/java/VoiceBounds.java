import java.util.List;

/** Boundary cases of promises 38 and 39, and of what the Terms say of VOICES, BODIES, THE TRACE. */
final class VoiceBounds extends Bounds {
  private static final int GOES = 0;
  private static final int TURNS = 1;
  private static final int MEETS = 2;
  private static final int ENDS = 3;

  private VoiceBounds() {
  }

  static void all() {
    voice();
    parted();
    voicesTerm();
    walkBodies();
    wraps();
    halves();
    otherKinds();
    chain();
    traceOfEach();
    traceNeverFull();
    traceOfRefused();
    body();
  }

  /** Ten WALKS of one KIND; the number of EDGES goes with the number of the WALK as told. */
  private static Acts ten(int kind, int... edges) {
    return x -> {
      x.square(1);
      for (int w = 0; w < 10; w++) x.walk(kind, 0, w < edges.length ? edges[w] : 0);
    };
  }

  private static int ones(int n) {
    int digits = 0;
    for (int i = 0; i < n; i++) digits = digits * 10 + 1;
    return digits;
  }

  private static void voice() {
    says(38, "A VOICE of a WALK.");
    due("the first VOICE of the first WALK", 7, ten(0), x -> x.voice(0, GOES, 7));
    due("the last VOICE of the last WALK: 90 by -9", -10, ten(0), x -> x.voice(9, ENDS, 90));
    due("of a WALK that can't be gone", 5, Bounds::some, x -> x.voice(3, TURNS, 5));
    says(38, "BEYOND.");
    for (int w : new int[] {-1, 10}) refusedEverywhere("WALK " + w, BEYOND, x -> x.voice(w, GOES, 1));
    for (int w : new int[] {4, MIN, MAX}) refused("WALK " + w + " of four", BEYOND, Bounds::some, x -> x.voice(w, GOES, 1));
    for (int v : new int[] {-1, 4, MIN, MAX}) refused("VOICE " + v, BEYOND, Bounds::some, x -> x.voice(0, v, 1));
    refused("VOICE 4 of a WALK that is PARTED: BEYOND", BEYOND, ten(0), x -> x.voice(0, 4, 1));
    refused("VOICE -1 of the last WALK", BEYOND, Bounds::full, x -> x.voice(9, -1, 1));
    due("a number that looks like an ERROR", BEYOND, ten(0), x -> x.voice(0, GOES, BEYOND));
    due("told(1) then", 0, ten(0), x -> x.voice(0, GOES, BEYOND) == BEYOND ? x.told(1) : -1);
    due("a number that looks like PARTED", PARTED, ten(0), x -> x.voice(0, GOES, PARTED));
    due("told(6) then", 0, ten(0), x -> x.voice(0, GOES, PARTED) == PARTED ? x.told(6) : -1);
  }

  private static void parted() {
    says(38, "PARTED.");
    for (int kind = 0; kind < 7; kind++) {
      for (int k = 0; k <= 9; k++) {
        for (int n = 0; n <= 8; n++) {
          TurnedLand x = land(1);
          for (int i = 0; i <= k; i++) x.walk(kind, 0, ones(n));
          String about = "KIND " + kind + ", WALK " + k + " of " + n + " EDGES";
          int answer = x.voice(k, ENDS, 1000);
          due(about + ", told(6)", n == k ? 1 : 0, x.told(6));
          if (n == k) due(about, PARTED, answer);
          if (n != k && kind == 0) due(about, 1000 / (n - k), answer);
          for (int v = 0; v < ENDS; v++) x.voice(k, v, 1000);
          due(about + ", no other VOICE is PARTED, told(6)", n == k ? 1 : 0, x.told(6));
        }
      }
      int of = kind;
      refusedButTrace("KIND " + kind + ", WALK 8 of eight EDGES", x -> {
        full(x);
        x.set(8, 0, of);
      }, x -> x.voice(8, ENDS, 1));
    }
    due("WALK 9 has at most eight EDGES, so it is never PARTED", -1, Bounds::full, x -> x.set(9, 0, 0) == 2 ? x.voice(9, ENDS, 1) : 0);
  }

  /** A PARTED voice() is the latest voice(): THE TRACE is of it, all else is as it was. */
  private static void refusedButTrace(String about, Acts ahead, Asks asked) {
    due(about, PARTED, ahead, asked);
    for (int k = 1; k <= 6; k++) {
      int error = k;
      due(about + ", told(" + k + ")", landOf(ahead).told(k) + (k == 6 ? 1 : 0), ahead, x -> asked.of(x) == PARTED ? x.told(error) : -1);
    }
    for (Looks.Look look : Looks.ALL) {
      TurnedLand one = landOf(ahead);
      asked.of(one);
      one.voice(0, GOES, 1);
      TurnedLand other = landOf(ahead);
      other.voice(0, GOES, 1);
      TALLY.is(about + ": something but THE TRACE has changed", Looks.seen(look, one).equals(Looks.seen(look, other)));
    }
  }

  private static void voicesTerm() {
    term(4, "VOICES of a WALK, with a number x (ints that wrap); k is its number, n how many EDGES it crosses: 0 goes, 1 turns,"
        + " 2 meets, 3 ends.");
    for (int w = 0; w <= 9; w += 9) {
      for (int n = 0; n <= 8; n += 8) {
        TurnedLand x = land(1);
        for (int i = 0; i <= w; i++) x.walk(0, 0, ones(n));
        String about = "k " + w + ", n " + n;
        due(about + ", goes", 100 + w, x.voice(w, GOES, 100));
        due(about + ", turns", 2 * (100 + w), x.voice(w, TURNS, 100));
        due(about + ", meets", 2 * (100 + w) - n, x.voice(w, MEETS, 100));
        due(about + ", ends", n == w ? PARTED : 100 / (n - w), x.voice(w, ENDS, 100));
      }
    }
  }

  private static void walkBodies() {
    term(4, "BODIES: WALK: 10 goes: x + k. 11 turns: goes(x) * 2. 12 meets: turns(x) - n.",
        "13 ends: x by (n - k), cut (PARTED if that is 0; that is all that voice() answers then).");
    int[][] ends = {{7, 2, 3}, {-7, 2, -3}, {1, 2, 0}, {-1, 2, 0}, {7, -2, -3}, {-7, -2, 3}, {0, 1, 0}, {0, -1, 0}, {MAX, 1, MAX},
        {MIN, 1, MIN}, {MAX, -1, -MAX}, {MIN, -1, MIN}, {MIN, -9, 238609294}, {MAX, 8, 268435455}};
    for (int[] e : ends) {
      TurnedLand x = land(1);
      int w = e[1] < 0 ? -e[1] : 0;
      for (int i = 0; i <= w; i++) x.walk(0, 0, e[1] < 0 ? 0 : ones(e[1]));
      due(e[0] + " by " + e[1], e[2], x.voice(w, ENDS, e[0]));
    }
  }

  private static void wraps() {
    term(4, "VOICES of a WALK, with a number x (ints that wrap);");
    TurnedLand x = land(1);
    for (int kind = 0; kind < 7; kind++) x.walk(kind, 0, 11);
    due("MAX + 1", MIN, x.set(0, 0, 0) == 0 && x.set(1, 0, 0) == 1 ? x.voice(1, GOES, MAX) : 0);
    due("twice MIN", 0, x.voice(0, TURNS, MIN));
    due("twice MAX", -2, x.voice(0, TURNS, MAX));
    due("twice half of MIN, less 2", MAX - 1, x.voice(0, MEETS, MIN / 2));
    x.set(0, 0, 1);
    due("MIN less 7", MAX - 6, x.voice(0, GOES, MIN));
    x.set(0, 0, 2);
    due("0 less MIN", MIN, x.voice(0, TURNS, 7 - (1 << 30)));
    x.set(0, 0, 4);
    due("MAX + 1 of PAIR", -2, x.voice(0, MEETS, MAX));
    x.set(0, 0, 6);
    due("three times", (MAX - 7) * 3, x.voice(0, GOES, MAX));
    due("three times MIN / 2", ((1 << 30) - 7) * 3, x.voice(0, GOES, 1 << 30));
  }

  private static void halves() {
    term(4, "ODD: 40 meets: super.meets(x / 2). 41 goes: super.goes(x) ^ k.");
    TurnedLand x = land(1);
    for (int w = 0; w < 10; w++) x.walk(3, 0, 0);
    int[][] halves = {{0, 0}, {1, 0}, {-1, 0}, {2, 1}, {-2, -1}, {-3, -1}, {MAX, MAX / 2}, {MIN, -(1 << 30)}};
    for (int[] h : halves) due(h[0] + " / 2", (h[1] - 7) * 2, x.voice(0, MEETS, h[0]));
    for (int v : new int[] {0, 7, 8, -1, MAX, MIN}) {
      for (int w = 0; w < 10; w++) due("goes(" + v + ") ^ " + w, v + w - 7 ^ w, x.voice(w, GOES, v));
    }
  }

  private static void otherKinds() {
    term(4, "ROUND: 20 goes: super.goes(x) - 7. 21 ends: super.ends(x) + turns(1).", "EVEN: 30 turns: 0 - super.turns(x).",
        "PAIR: 50 meets: super.meets(x + 1).", "TOLD: 60 goes: 2. 61 turns: super.turns(x) + n.",
        "WHOLE: 70 goes: super.goes(x) * 3. 71 ends: super.ends(x) - meets(0).");
    int[] edges = {0, 1, 11, 1111, 11111111};
    for (int digits : edges) {
      int n = digits == 0 ? 0 : ("" + digits).length();
      for (int v : new int[] {0, 1, -1, 50, -50}) {
        TurnedLand x = land(1);
        for (int kind = 0; kind < 7; kind++) x.walk(kind, 0, digits);
        x.walk(0, 0, digits);
        for (int kind : new int[] {1, 2, 4, 5, 6}) {
          int k = kind;
          int goes = kind == 4 ? v + k : kind == 5 ? 2 : kind == 6 ? (v + k - 7) * 3 : v + k - 7;
          int goesOne = kind == 4 ? 1 + k : kind == 5 ? 2 : kind == 6 ? (1 + k - 7) * 3 : 1 + k - 7;
          int sign = kind == 2 || kind == 6 ? -1 : 1;
          int more = kind == 5 ? n : 0;
          String about = "KIND " + kind + ", n " + n + ", x " + v;
          due(about + ", goes", goes, x.voice(k, GOES, v));
          due(about + ", turns", sign * 2 * goes + more, x.voice(k, TURNS, v));
          due(about + ", meets", kind == 4 ? 2 * (v + 1 + k) - n : sign * 2 * goes + more - n, x.voice(k, MEETS, v));
          int meetsNone = -2 * (k - 7) * 3 - n;
          int ends = n == k ? PARTED : v / (n - k) + (kind == 4 || kind == 5 ? 0 : sign * 2 * goesOne) - (kind == 6 ? meetsNone : 0);
          due(about + ", ends", ends, x.voice(k, ENDS, v));
        }
      }
    }
  }

  /** The BODY of the next KIND above that has one: told by THE TRACE's first. */
  private static void chain() {
    term(4, "goes(..) is the BODY of its KIND, or of the next KIND above that has one; super.goes(..) that from the KIND above"
        + " the BODY's on.");
    int[][] first = {{10, 11, 12, 13}, {20, 11, 12, 21}, {20, 30, 12, 21}, {41, 11, 40, 21}, {10, 11, 50, 13}, {60, 61, 12, 13},
        {70, 30, 12, 71}};
    for (int kind = 0; kind < 7; kind++) {
      for (int v = 0; v < 4; v++) {
        TurnedLand x = landOf(ten(kind, 1, 11));
        x.voice(0, v, 3);
        due("KIND " + kind + ", VOICE " + v, first[kind][v], x.body(0));
        x.set(1, 0, (kind + 1) % 7);
        x.voice(1, v, 3);
        due("a WALK that has become KIND " + (kind + 1) % 7 + ", VOICE " + v, first[(kind + 1) % 7][v], x.body(0));
      }
    }
  }

  private static void dueTrace(int kind, int voice, Integer... bodies) {
    TurnedLand x = landOf(ten(kind, 1));
    x.voice(0, voice, 3);
    String about = "KIND " + kind + ", VOICE " + voice + ", THE TRACE " + trace(x);
    TALLY.is(about + ", due is " + List.of(bodies), trace(x).equals(List.of(bodies)));
    due(about + ", how many", bodies.length, x.count(8));
    due(about + ", behind the last", NONE, x.body(bodies.length));
  }

  private static void traceOfEach() {
    term(4, "THE TRACE: the numbers of BODIES of the latest voice(), as they began (what stands left is worked out first),"
        + " the first 30.");
    dueTrace(0, GOES, 10);
    dueTrace(0, TURNS, 11, 10);
    dueTrace(0, MEETS, 12, 11, 10);
    dueTrace(0, ENDS, 13);
    dueTrace(1, GOES, 20, 10);
    dueTrace(1, TURNS, 11, 20, 10);
    dueTrace(1, MEETS, 12, 11, 20, 10);
    dueTrace(1, ENDS, 21, 13, 11, 20, 10);
    dueTrace(2, GOES, 20, 10);
    dueTrace(2, TURNS, 30, 11, 20, 10);
    dueTrace(2, MEETS, 12, 30, 11, 20, 10);
    dueTrace(2, ENDS, 21, 13, 30, 11, 20, 10);
    dueTrace(3, GOES, 41, 20, 10);
    dueTrace(3, TURNS, 11, 41, 20, 10);
    dueTrace(3, MEETS, 40, 12, 11, 41, 20, 10);
    dueTrace(3, ENDS, 21, 13, 11, 41, 20, 10);
    dueTrace(4, GOES, 10);
    dueTrace(4, TURNS, 11, 10);
    dueTrace(4, MEETS, 50, 12, 11, 10);
    dueTrace(4, ENDS, 13);
    dueTrace(5, GOES, 60);
    dueTrace(5, TURNS, 61, 11, 60);
    dueTrace(5, MEETS, 12, 61, 11, 60);
    dueTrace(5, ENDS, 13);
    dueTrace(6, GOES, 70, 20, 10);
    dueTrace(6, TURNS, 30, 11, 70, 20, 10);
    dueTrace(6, MEETS, 12, 30, 11, 70, 20, 10);
    dueTrace(6, ENDS, 71, 21, 13, 30, 11, 70, 20, 10, 12, 30, 11, 70, 20, 10);
  }

  /** No voice() begins more than 14 BODIES, so the limit of 30 can't be reached: what begins doesn't hang on x, k, n. */
  private static void traceNeverFull() {
    term(4, "THE TRACE: the numbers of BODIES of the latest voice(), as they began (what stands left is worked out first),"
        + " the first 30.");
    int most = 0;
    for (int kind = 0; kind < 7; kind++) {
      for (int v = 0; v < 4; v++) {
        TurnedLand x = landOf(ten(kind, 1));
        x.voice(0, v, 3);
        int once = x.count(8);
        most = Math.max(most, once);
        for (int again = 0; again < 20; again++) x.voice(0, v, 3 + again);
        due("KIND " + kind + ", VOICE " + v + ", BODIES behind twenty voice()s", once, x.count(8));
      }
    }
    due("the most BODIES of all", 14, most);
    due("the first voice()", 0, new TurnedLand().count(8));
  }

  private static void traceOfRefused() {
    due("BODIES that began ahead of PARTED, ROUND", 2, ten(1), x -> x.voice(0, ENDS, 3) == PARTED ? x.count(8) : -1);
    due("the first of them", 21, ten(1), x -> x.voice(0, ENDS, 3) == PARTED ? x.body(0) : -1);
    due("the second of them", 13, ten(1), x -> x.voice(0, ENDS, 3) == PARTED ? x.body(1) : -1);
    due("BODIES that began ahead of PARTED, WHOLE", 3, ten(6), x -> x.voice(0, ENDS, 3) == PARTED ? x.count(8) : -1);
    due("BODIES that began ahead of PARTED, WALK", 13, ten(0), x -> x.voice(0, ENDS, 3) == PARTED ? x.body(0) : -1);
    due("THE TRACE behind BEYOND", 12, Bounds::some, x -> {
      x.voice(2, GOES, 1);
      x.voice(0, MEETS, 1);
      return x.voice(0, 4, 1) == BEYOND ? x.body(1) : -1;
    });
  }

  private static void body() {
    says(39, "THE TRACE's i-th.");
    int[] longest = {71, 21, 13, 30, 11, 70, 20, 10, 12, 30, 11, 70, 20, 10};
    for (int i = 0; i < longest.length; i++) {
      int at = i;
      due("number " + i + " of fourteen", longest[i], ten(6, 1), x -> x.voice(0, ENDS, 5) != PARTED ? x.body(at) : -1);
    }
    due("of the latest voice()", 10, ten(6, 1), x -> x.voice(0, ENDS, 5) != PARTED && x.set(0, 0, 0) == 6 && x.voice(0, GOES, 1) == 1
        ? x.body(0) : -1);
    says(39, "NONE: there is none such.");
    for (int i : new int[] {-1, 14, 29, 30, MIN, MAX}) {
      refused("number " + i + " of fourteen", NONE, x -> {
        ten(6, 1).on(x);
        x.voice(0, ENDS, 5);
      }, x -> x.body(i));
      refused("number " + i + " of none", NONE, Bounds::nothing, x -> x.body(i));
    }
    refused("number 0 of none", NONE, Bounds::nothing, x -> x.body(0));
    refused("number 6 of six", NONE, Bounds::some, x -> x.body(6));
    refused("number 1 of one", NONE, x -> {
      ten(0).on(x);
      x.voice(0, GOES, 1);
    }, x -> x.body(1));
    refused("the last of the one ahead", NONE, x -> {
      ten(6, 1).on(x);
      x.voice(0, ENDS, 5);
      x.set(0, 0, 0);
      x.voice(0, GOES, 1);
    }, x -> x.body(13));
  }
}
