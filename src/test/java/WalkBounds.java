/** Boundary cases of promises 17 to 22, and of what the Terms say of WALKS. */
final class WalkBounds extends Bounds {
  private WalkBounds() {
  }

  static void all() {
    walk();
    walkRefused();
    walkFull();
    walksTerm();
    walkIs();
    walkAndRound();
    evenAndOdd();
    pair();
    pairOfTheLast();
    told();
    whole();
    wholeOfEight();
    as();
    set();
    setRefused();
    gone();
    goneState();
    stops();
  }

  private static void walk() {
    says(17, "A WALK: its number.");
    TurnedLand x = land(1);
    for (int i = 0; i < 10; i++) due("WALK " + i, i, x.walk(i % 7, 0, i % 5));
    for (int kind = 0; kind < 7; kind++) {
      int of = kind;
      due("KIND " + kind, kind, y -> y.square(1), y -> y.walk(of, 0, 0) == 0 ? y.walkIs(0, 0) : -1);
    }
    due("SQUARE 0", 0, Bounds::some, y -> y.walk(0, 0, 0) == 4 ? y.walkIs(4, 1) : -1);
    due("SQUARE 4, the last of five", 4, Bounds::some, y -> y.walk(0, 4, 0) == 4 ? y.walkIs(4, 1) : -1);
    says(17, "BEYOND: KIND, SQUARE, edges (a number whose digits are 1 .. 4, 8 at most; 0: none).");
    int[] right = {0, 1, 2, 3, 4, 11, 44, 111, 444, 1111111, 4444444, 11111111, 44444444, 12344321};
    for (int edges : right) {
      int many = edges == 0 ? 0 : ("" + edges).length();
      due("edges " + edges, many, y -> y.square(1), y -> y.walk(0, 0, edges) == 0 ? y.walkIs(0, 2) : -1);
    }
  }

  private static void walkRefused() {
    says(17, "BEYOND: KIND, SQUARE, edges (a number whose digits are 1 .. 4, 8 at most; 0: none).");
    for (int kind : new int[] {-1, 7}) refusedEverywhere("KIND " + kind, BEYOND, x -> x.walk(kind, 0, 1));
    for (int kind : new int[] {MIN, MAX}) refused("KIND " + kind, BEYOND, Bounds::some, x -> x.walk(kind, 0, 1));
    for (int s : new int[] {-1, 8}) refusedEverywhere("SQUARE " + s, BEYOND, x -> x.walk(0, s, 1));
    for (int s : new int[] {5, MIN, MAX}) refused("SQUARE " + s + " of five", BEYOND, Bounds::some, x -> x.walk(0, s, 1));
    int[] wrong = {
      -1, -4, -11, 5, 6, 7, 8, 9, 10, 15, 40, 50, 51, 101, 110, 105, 511, 151, 1000, 12345678, 50000000, 11111115,
      51111111, 10111111, 11111110, 100000000, 111111111, 444444444, 1111111111, 1444444444, MIN, MAX, -11111111
    };
    for (int edges : wrong) refused("edges " + edges, BEYOND, Bounds::some, x -> x.walk(0, 0, edges));
    refused("no SQUARE to begin in", BEYOND, Bounds::nothing, x -> x.walk(0, 0, 0));
  }

  private static void walkFull() {
    says(17, "FULL.");
    due("the tenth WALK", 9, Bounds::some, x -> {
      for (int i = 4; i < 9; i++) x.walk(0, 0, 0);
      return x.walk(0, 0, 0);
    });
    refused("an eleventh WALK", FULL, Bounds::full, x -> x.walk(0, 0, 1));
    refused("an eleventh WALK of no EDGES", FULL, Bounds::full, x -> x.walk(6, 7, 0));
    refused("an eleventh WALK of KIND 7: BEYOND ahead of FULL", BEYOND, Bounds::full, x -> x.walk(7, 0, 1));
    refused("an eleventh WALK from SQUARE 8: BEYOND ahead of FULL", BEYOND, Bounds::full, x -> x.walk(0, 8, 1));
    refused("an eleventh WALK of nine EDGES: BEYOND ahead of FULL", BEYOND, Bounds::full, x -> x.walk(0, 0, 111111111));
    due("WALKS behind it", 10, Bounds::full, x -> x.walk(0, 0, 1) == FULL ? x.count(2) : -1);
  }

  private static void walksTerm() {
    term(1, "WALKS 0, 1, .. (at most 10) are of KINDS: 0 WALK, 1 ROUND under WALK, 2 EVEN under ROUND, 3 ODD under ROUND,"
        + " 4 PAIR under WALK, 5 TOLD under WALK, 6 WHOLE under EVEN; each begins in a SQUARE and crosses 0 .. 8 EDGES (of the"
        + " SQUARE where one is then; told as digits 1 east .. 4 south of a number, the first the highest).");
    TurnedLand x = land(1, 1, 1, 1, 1, 1, 1, 1);
    for (int s = 0; s < 7; s++) x.join(edge(s, s % 4), edge(s + 1, (s + 3) % 4), STRAIGHT);
    int[] edges = {0, 1, 12, 123, 1234, 12341, 123412, 1234123};
    for (int n = 0; n < 8; n++) {
      due("WALK of " + n + " EDGES", n, x.walk(0, 0, edges[n]));
      due("where it ends", 2 * n, x.gone(n, 0, 0));
      due("its EDGES", n, x.walkIs(n, 2));
    }
    TurnedLand band = land(3);
    band.join(EAST, NORTH, TURNED);
    band.join(WEST, SOUTH, STRAIGHT);
    int[][] eight = {{11111111, 0, 8}, {33333333, 0, 0}, {33333331, 1, 1}, {13333333, 1, 1}, {42424242, 0, 4}};
    for (int i = 0; i < eight.length; i++) {
      band.walk(0, 0, eight[i][0]);
      due("eight EDGES " + eight[i][0] + ", the end", eight[i][1], band.gone(i, 0, 0));
      due("eight EDGES " + eight[i][0] + ", turns", eight[i][2], band.gone(i, 0, 2));
      due("eight EDGES " + eight[i][0] + ", HOURS", 24, band.gone(i, 0, 1));
    }
    term(1, "MARK of a WALK: -1 .. 9999 (-1 at first).");
    due("MARK at first", -1, x.walkIs(0, 3));
    due("MARK of the latest at first", -1, x.walkIs(7, 3));
  }

  private static void walkIs() {
    says(18, "Of a WALK: 0 KIND, 1 SQUARE where it begins, 2 how many EDGES, 3 MARK, 4 1 if it IS SO, else 0.");
    TurnedLand x = landOf(Bounds::some);
    int[] want = {3, 0, 1, 12, 0};
    for (int what = 0; what <= 4; what++) due("what " + what, want[what], x.walkIs(0, what));
    due("what 4, so", 1, x.walkIs(1, 4));
    due("the last of ten", 1, Bounds::full, y -> y.walkIs(9, 1));
    says(18, "BEYOND.");
    for (int w : new int[] {-1, 10}) refusedEverywhere("WALK " + w, BEYOND, y -> y.walkIs(w, 0));
    for (int w : new int[] {4, MIN, MAX}) refused("WALK " + w + " of four", BEYOND, Bounds::some, y -> y.walkIs(w, 0));
    for (int what : new int[] {-1, 5, MIN, MAX}) {
      refused("what " + what, BEYOND, Bounds::some, y -> y.walkIs(0, what));
    }
  }

  /** Two SQUARES, joined straight from east to west, turned from north to south; RIM else. */
  private static TurnedLand pairLand() {
    TurnedLand x = land(5, 7);
    x.join(edge(0, EAST), edge(1, WEST), STRAIGHT);
    x.join(edge(0, NORTH), edge(1, SOUTH), TURNED);
    return x;
  }

  private static void so(String about, int want, TurnedLand x, int kind, int square, int edges) {
    due(about + ": KIND " + kind + ", edges " + edges, want, x.walkIs(x.walk(kind, square, edges), 4));
  }

  private static void walkAndRound() {
    term(1, "A WALK IS SO: WALK: each EDGE is joined, as one comes to it.", "ROUND: so, and it ends where it began.");
    TurnedLand x = pairLand();
    so("no EDGES", 1, x, 0, 0, 0);
    so("one EDGE", 1, x, 0, 0, 1);
    so("one EDGE that is RIM", 0, x, 0, 0, 3);
    so("joined here, RIM there", 0, x, 0, 0, 11);
    so("RIM here, joined there", 0, x, 0, 0, 31);
    so("eight EDGES", 1, x, 0, 0, 13131313);
    so("eight EDGES, the last RIM", 0, x, 0, 0, 13131311);
    so("eight EDGES, the first RIM", 0, x, 0, 0, 33131313);
    TurnedLand y = pairLand();
    so("no EDGES", 1, y, 1, 1, 0);
    so("away", 0, y, 1, 0, 1);
    so("there and back", 1, y, 1, 0, 13);
    so("home with the other HAND", 1, y, 1, 0, 14);
    so("six EDGES home", 1, y, 1, 0, 131313);
    so("eight EDGES home", 1, y, 1, 0, 13131324);
    so("seven EDGES away", 0, y, 1, 0, 1313131);
    so("one can't go home", 0, y, 1, 0, 12);
    so("where it began, by way of RIM", 0, y, 1, 0, 3);
  }

  private static void evenAndOdd() {
    term(1, "EVEN: as ROUND, and one's HAND is as it was.", "ODD: as ROUND, and one's HAND is the other one.");
    int[][] walks = {
      {0, 0, 1, 0}, {0, 1, 0, 0}, {0, 13, 1, 0}, {0, 14, 0, 1}, {0, 24, 1, 0}, {0, 23, 0, 1}, {0, 1414, 1, 0},
      {0, 141414, 0, 1}, {0, 14141414, 1, 0}, {0, 13131314, 0, 1}, {0, 2, 0, 0}, {0, 3, 0, 0}, {0, 141, 0, 0}, {1, 0, 1, 0},
      {1, 31, 1, 0}, {1, 32, 0, 1}, {1, 1, 0, 0}
    };
    for (int[] w : walks) {
      TurnedLand x = pairLand();
      so("from SQUARE " + w[0], w[2], x, 2, w[0], w[1]);
      so("from SQUARE " + w[0], w[3], x, 3, w[0], w[1]);
      so("from SQUARE " + w[0], w[2] + w[3], x, 1, w[0], w[1]);
    }
  }

  private static void pair() {
    term(1, "PAIR: as WALK, and the WALK of the next number (there is one, it can be gone) ends in the same SQUARE with the same"
        + " HAND, both begun with HAND 0.");
    int[][] pairs = {
      {0, 1, 1, 0, 1}, {0, 1, 0, 1, 1}, {0, 1, 0, 2, 0}, {0, 2, 0, 2, 1}, {0, 0, 0, 0, 1}, {0, 0, 1, 0, 0}, {0, 14, 0, 23, 1},
      {0, 14, 0, 0, 0}, {0, 1, 0, 3, 0}, {0, 3, 0, 3, 0}, {0, 3, 0, 1, 0}, {0, 11, 1, 0, 0}, {1, 3, 0, 14141414, 1},
      {1, 2, 0, 14141414, 0}
    };
    for (int[] p : pairs) {
      for (int kind = 0; kind < 7; kind++) {
        TurnedLand x = pairLand();
        x.walk(4, p[0], p[1]);
        x.walk(kind, p[2], p[3]);
        due(p[1] + " from " + p[0] + ", the next " + p[3] + " from " + p[2] + " of KIND " + kind, p[4], x.walkIs(0, 4));
      }
    }
    TurnedLand x = pairLand();
    x.walk(0, 0, 1);
    x.walk(4, 0, 1);
    due("the last one has no next, though one ahead ends there", 0, x.walkIs(1, 4));
    x.walk(0, 0, 2);
    due("the next ends with the other HAND", 0, x.walkIs(1, 4));
    x.turn(1, STRAIGHT);
    due("the next ends there now", 1, x.walkIs(1, 4));
    x.part();
    due("the next can't be gone now", 0, x.walkIs(1, 4));
  }

  private static void pairOfTheLast() {
    TurnedLand x = land(1);
    for (int i = 0; i < 10; i++) {
      x.walk(4, 0, 0);
      due("WALK " + i + ", the latest: there is no next one", 0, x.walkIs(i, 4));
      if (i > 0) due("WALK " + (i - 1) + ", the latest but one", 1, x.walkIs(i - 1, 4));
    }
  }

  private static void told() {
    term(1, "TOLD: as WALK, and the HOURS it takes in all are what its MARK tells (or its MARK is -1).");
    int[][] marks = {{-1, 1}, {0, 0}, {16, 0}, {17, 1}, {18, 0}, {9999, 0}};
    for (int[] m : marks) {
      TurnedLand x = pairLand();
      x.walk(5, 0, 131);
      x.set(0, 3, m[0]);
      due("17 HOURS, MARK " + m[0], m[1], x.walkIs(0, 4));
      x.walk(5, 0, 3);
      x.set(1, 3, m[0]);
      due("can't be gone, MARK " + m[0], 0, x.walkIs(1, 4));
      x.walk(5, 0, 0);
      x.set(2, 3, m[0]);
      due("no HOURS, MARK " + m[0], m[0] == -1 || m[0] == 0 ? 1 : 0, x.walkIs(2, 4));
    }
    TurnedLand x = pairLand();
    text(x, 0, "9999");
    x.walk(5, 0, 13131313);
    for (int mark : new int[] {7991, 7992, 7993}) {
      x.set(0, 3, mark);
      due("the most HOURS there may be, 7992, MARK " + mark, mark == 7992 ? 1 : 0, x.walkIs(0, 4));
    }
    x.set(0, 0, 4);
    due("of another KIND, MARK doesn't matter", 0, x.walkIs(0, 4));
    x.set(0, 0, 1);
    due("of another KIND, MARK doesn't matter", 1, x.walkIs(0, 4));
  }

  private static void whole() {
    term(1, "WHOLE: as EVEN, and it comes by each SQUARE.");
    so("one SQUARE, no EDGES", 1, land(1), 6, 0, 0);
    TurnedLand x = pairLand();
    so("one of two SQUARES, no EDGES", 0, x, 6, 0, 0);
    so("both", 1, x, 6, 0, 13);
    so("both, from the last", 1, x, 6, 1, 31);
    so("both, but not home", 0, x, 6, 0, 1);
    so("both, home with the other HAND", 0, x, 6, 0, 14);
    so("both, home with the same HAND again", 1, x, 6, 0, 1414);
    so("both, then RIM", 0, x, 6, 0, 133);
    x.square(1);
    due("two of three SQUARES", 0, x.walkIs(1, 4));
    TurnedLand y = land(1, 1, 1);
    y.join(edge(0, EAST), edge(1, WEST), STRAIGHT);
    y.join(edge(1, EAST), edge(2, WEST), STRAIGHT);
    so("from the middle, both sides", 1, y, 6, 1, 1331);
    so("from the middle, the last not", 0, y, 6, 1, 31);
    so("from the middle, the first not", 0, y, 6, 1, 13);
    so("from the end", 1, y, 6, 2, 3311);
  }

  private static void wholeOfEight() {
    TurnedLand x = land(1, 1, 1, 1, 1, 1, 1, 1);
    for (int s = 0; s < 8; s++) x.join(edge(s, EAST), edge((s + 1) % 8, WEST), STRAIGHT);
    so("eight EDGES about eight SQUARES", 1, x, 6, 0, 11111111);
    so("eight EDGES the other way", 1, x, 6, 3, 33333333);
    so("seven EDGES: all SQUARES, but not home", 0, x, 6, 0, 1111111);
    so("home without the SQUARE over there", 0, x, 6, 0, 11113333);
    x.turn(7, TURNED);
    due("about, turned", 0, x.walkIs(0, 4));
    x.turn(0, TURNED);
    due("about, turned twice", 1, x.walkIs(0, 4));
    TurnedLand seven = land(1, 1, 1, 1, 1, 1, 1, 1);
    for (int s = 0; s < 7; s++) seven.join(edge(s, EAST), edge((s + 1) % 7, WEST), STRAIGHT);
    so("seven of eight SQUARES", 0, seven, 6, 0, 1111111);
  }

  private static void as() {
    says(19, "A WALK as one of a KIND: how many EDGES.");
    int[] above = {0b1, 0b11, 0b111, 0b1011, 0b10001, 0b100001, 0b1000111};
    for (int kind = 0; kind < 7; kind++) {
      int of = kind;
      Acts ahead = x -> {
        some(x);
        x.walk(of, 3, 11111111);
        x.walk(of, 4, 0);
      };
      for (int as = 0; as < 7; as++) {
        int asked = as;
        says(19, "A WALK as one of a KIND: how many EDGES.");
        if ((above[kind] >> as & 1) == 1) {
          due("KIND " + kind + " as " + as + ", eight EDGES", 8, ahead, x -> x.as(4, asked));
          due("KIND " + kind + " as " + as + ", no EDGES", 0, ahead, x -> x.as(5, asked));
        } else {
          says(19, "KIND: it is not of that KIND, nor of one under it.");
          refused("KIND " + kind + " as " + as, KIND, ahead, x -> x.as(4, asked));
        }
      }
    }
    says(19, "BEYOND.");
    for (int w : new int[] {-1, 10}) refusedEverywhere("WALK " + w, BEYOND, x -> x.as(w, 0));
    for (int w : new int[] {4, MIN, MAX}) refused("WALK " + w + " of four", BEYOND, Bounds::some, x -> x.as(w, 0));
    for (int k : new int[] {-1, 7, MIN, MAX}) refused("KIND " + k, BEYOND, Bounds::some, x -> x.as(0, k));
    due("a WALK that can't be gone", 1, Bounds::some, x -> x.as(3, 5));
  }

  private static void set() {
    says(20, "KIND (what 0), MARK (3) of a WALK becomes v: what it was.");
    TurnedLand x = landOf(Bounds::full);
    int was = 9 % 7;
    for (int kind : new int[] {0, 6, 6, 3}) {
      due("KIND " + kind, was, x.set(9, 0, kind));
      due("KIND " + kind + " then", kind, x.walkIs(9, 0));
      was = kind;
    }
    was = -1;
    for (int mark : new int[] {-1, 0, 9999, 9998, -1}) {
      due("MARK " + mark, was, x.set(9, 3, mark));
      due("MARK " + mark + " then", mark, x.walkIs(9, 3));
      was = mark;
    }
    due("KIND stays as MARK becomes", 3, x.walkIs(9, 0));
    due("MARK of WALK 0", -1, x.set(0, 3, 7));
    due("MARK of WALK 0 stays as KIND becomes", 7, x.set(0, 0, 2) == 0 ? x.walkIs(0, 3) : -2);
  }

  private static void setRefused() {
    says(20, "BEYOND.");
    for (int w : new int[] {-1, 10}) {
      refusedEverywhere("WALK " + w + ", KIND", BEYOND, x -> x.set(w, 0, 0));
      refusedEverywhere("WALK " + w + ", MARK", BEYOND, x -> x.set(w, 3, 0));
    }
    for (int w : new int[] {4, MIN, MAX}) refused("WALK " + w + " of four", BEYOND, Bounds::some, x -> x.set(w, 0, 0));
    for (int what : new int[] {-1, 1, 2, 4, MIN, MAX}) {
      refused("what " + what, BEYOND, Bounds::some, x -> x.set(0, what, 0));
    }
    for (int v : new int[] {-1, 7, MIN, MAX}) refused("KIND " + v, BEYOND, Bounds::some, x -> x.set(0, 0, v));
    for (int v : new int[] {-2, 10000, MIN, MAX}) refused("MARK " + v, BEYOND, Bounds::some, x -> x.set(0, 3, v));
  }

  private static void gone() {
    says(21, "A WALK is gone with a HAND: what 0 the place where it ends (2 times the SQUARE and the HAND), 1 HOURS,"
        + " 2 how often the HAND turned.");
    TurnedLand x = pairLand();
    x.walk(0, 1, 0);
    x.walk(0, 0, 14141414);
    x.walk(0, 0, 24242424);
    x.walk(0, 0, 1);
    int[][] want = {{2, 0, 0, 3, 0, 0}, {0, 48, 4, 1, 48, 4}, {0, 48, 8, 1, 48, 8}, {2, 5, 0, 3, 5, 0}};
    for (int w = 0; w < 4; w++) {
      for (int hand = 0; hand <= 1; hand++) {
        for (int what = 0; what <= 2; what++) {
          due("WALK " + w + ", HAND " + hand + ", what " + what, want[w][3 * hand + what], x.gone(w, hand, what));
        }
      }
    }
    text(x, 0, "9999*h");
    due("HOURS with HAND 0: held at 1 and 999 by turns", 4 + 4 * 999, x.gone(2, 0, 1));
    due("the most HOURS", 7992, text(x, 0, "9999") == 1 ? x.gone(1, 0, 1) : -1);
    due("no HOURS, though", 0, x.gone(0, 0, 1));
    due("nobody has gone", 0, x.count(3));
    says(21, "BEYOND.");
    for (int w : new int[] {-1, 10}) refusedEverywhere("WALK " + w, BEYOND, y -> y.gone(w, 0, 0));
    for (int w : new int[] {4, MIN, MAX}) refused("WALK " + w + " of four", BEYOND, Bounds::some, y -> y.gone(w, 0, 0));
    for (int v : new int[] {-1, 2, MIN, MAX}) refused("HAND " + v, BEYOND, Bounds::some, y -> y.gone(0, v, 0));
    for (int v : new int[] {-1, 3, MIN, MAX}) refused("what " + v, BEYOND, Bounds::some, y -> y.gone(0, 0, v));
    refused("HAND 2, it can't be gone: BEYOND ahead of STATE", BEYOND, Bounds::some, y -> y.gone(3, 2, 0));
    refused("what 3, it can't be gone: BEYOND ahead of STATE", BEYOND, Bounds::some, y -> y.gone(3, 0, 3));
  }

  private static Acts going(int edges) {
    return x -> {
      some(x);
      x.walk(0, 0, edges);
    };
  }

  private static void goneState() {
    says(21, "STATE: it can't be gone.");
    for (int what = 0; what <= 2; what++) {
      int of = what;
      refused("the only EDGE is RIM, what " + what, STATE, Bounds::some, x -> x.gone(3, 0, of));
      refused("the only EDGE is RIM, HAND 1, what " + what, STATE, Bounds::some, x -> x.gone(3, 1, of));
      refused("the first of eight is RIM, what " + what, STATE, going(41111111), x -> x.gone(4, 0, of));
      refused("the last of eight is RIM, what " + what, STATE, going(11111114), x -> x.gone(4, 0, of));
    }
    due("none of eight is RIM", 5, going(11111111), x -> x.gone(4, 0, 0));
    due("what was joined is RIM", STATE, going(11111111), x -> x.part() + x.part() == 5 ? x.gone(4, 0, 0) : -1);
  }

  private static void stops() {
    says(22, "The first of its EDGES (from 0) that can't be crossed.");
    due("the only one", 0, Bounds::some, x -> x.stops(3));
    for (int at = 0; at < 8; at++) {
      StringBuilder edges = new StringBuilder("11111111");
      edges.setCharAt(at, '4');
      due("EDGE " + at + " of eight", at, going(Integer.parseInt(edges.toString())), x -> x.stops(4));
    }
    due("the first of two that can't", 2, going(1141), x -> x.stops(4));
    due("the first of all that can't", 0, going(44444444), x -> x.stops(4));
    says(22, "BEYOND.");
    for (int w : new int[] {-1, 10}) refusedEverywhere("WALK " + w, BEYOND, x -> x.stops(w));
    for (int w : new int[] {4, MIN, MAX}) refused("WALK " + w + " of four", BEYOND, Bounds::some, x -> x.stops(w));
    says(22, "NONE: all can.");
    refused("no EDGES", NONE, going(0), x -> x.stops(4));
    refused("one EDGE", NONE, going(1), x -> x.stops(4));
    refused("eight EDGES", NONE, going(11111111), x -> x.stops(4));
    refused("the last of ten WALKS", NONE, Bounds::full, x -> x.stops(9));
  }
}
