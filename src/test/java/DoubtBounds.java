/** Boundary cases of promises 31 to 37, and of what the Terms say of DOUBT, FACTS, AGREE, KNOWN, TEST. */
final class DoubtBounds extends Bounds {
  private DoubtBounds() {
  }

  static void all() {
    doubt();
    doubtRefused();
    fact();
    forget();
    agree();
    agreeTerm();
    factsThatCannotBeGone();
    known();
    knownNone();
    test();
    testOfSeveral();
    testNone();
    seed();
  }

  /** A SQUARE for each of six JOINS in DOUBT, and a WALK by each of these. */
  private static void six(TurnedLand x) {
    for (int s = 0; s < 6; s++) {
      x.square(1);
      x.join(edge(s, EAST), edge(s, WEST), s % 2);
      x.walk(0, s, 1);
    }
    x.doubt(63);
  }

  private static void doubt() {
    says(31, "JOINS in DOUBT become a set (bits): what they were.");
    due("none of none", 0, Bounds::nothing, x -> x.doubt(0));
    due("what they were", 5, Bounds::some, x -> x.doubt(0));
    due("none then", 0, Bounds::some, x -> x.doubt(0) == 5 ? x.count(10) : -1);
    due("all four of four", 15, Bounds::some, x -> x.doubt(15) == 5 ? x.count(10) : -1);
    due("the last of four", 8, Bounds::some, x -> x.doubt(8) == 5 ? x.doubt(1) : -1);
    due("the last six of sixteen", 0xFC00, Bounds::full, x -> x.doubt(0));
    due("the last of sixteen", 0x8000, Bounds::full, x -> x.doubt(0x8000) == 0xFC00 ? x.doubt(0) : -1);
    due("six of sixteen, far apart", 0x9249, Bounds::full, x -> x.doubt(0x9249) == 0xFC00 ? x.doubt(0) : -1);
    due("JOINS are as told", 1, Bounds::some, x -> x.doubt(15) == 5 ? x.joinIs(1, 2) : -1);
    term(3, "In DOUBT are some JOINS (a set; nobody knows whether they are STRAIGHT or TURNED; as told for all else).");
    TurnedLand x = landOf(Bounds::some);
    x.doubt(15);
    due("as told for a way", 6, x.soonest(1, 3));
    due("as told for THE LAND", 1, x.land(5));
    due("as told for WALKS", 1, x.walkIs(1, 4));
    due("as told for PLAIN", 2, x.plain());
  }

  private static void doubtRefused() {
    says(31, "BEYOND: others than there are, more than 6.");
    due("six of sixteen, the last not too many", 0xFC00, Bounds::full, x -> x.doubt(63));
    for (int set : new int[] {127, 0xFE00, 0xFFFF, 0x5555, 0xAAAA, 0x7FFF}) {
      refused("more than six of sixteen: " + set, BEYOND, Bounds::full, x -> x.doubt(set));
    }
    for (int set : new int[] {0x10000, 0x10001, MIN, MAX, -1, MIN + 1}) {
      refusedEverywhere("others than sixteen: " + set, BEYOND, x -> x.doubt(set));
    }
    for (int set : new int[] {16, 17, 24, 31, 32}) {
      refused("others than four: " + set, BEYOND, Bounds::some, x -> x.doubt(set));
    }
    refused("the first of none", BEYOND, Bounds::nothing, x -> x.doubt(1));
    refused("one that was taken off", BEYOND, Bounds::parted, x -> x.doubt(1));
    refused("the last of sixteen that was taken off", BEYOND, x -> {
      full(x);
      x.part();
    }, x -> x.doubt(0x8000));
    due("the last but one then", 0x7C00, Bounds::full, x -> x.part() == 15 ? x.doubt(0x4000) : -1);
    due("none is no ERROR", 0xFC00, Bounds::full, x -> x.doubt(0));
  }

  private static void fact() {
    says(32, "A FACT: its number.");
    TurnedLand x = land(1);
    x.walk(0, 0, 0);
    for (int f = 0; f < 12; f++) due("FACT " + f, f, x.fact(0, f % 2));
    due("of the last of ten WALKS", 0, Bounds::full, y -> y.forget() == 12 ? y.fact(9, 1) : -1);
    due("the twelfth", 11, Bounds::full, y -> {
      y.forget();
      for (int f = 0; f < 11; f++) y.fact(0, 0);
      return y.fact(0, 1);
    });
    due("of a WALK that can't be gone", 2, Bounds::some, y -> y.fact(3, 0));
    says(32, "BEYOND: WALK, odd 0, 1.");
    for (int w : new int[] {-1, 10}) refusedEverywhere("WALK " + w, BEYOND, y -> y.fact(w, 0));
    for (int w : new int[] {4, MIN, MAX}) refused("WALK " + w + " of four", BEYOND, Bounds::some, y -> y.fact(w, 0));
    for (int odd : new int[] {-1, 2, MIN, MAX}) refused("odd " + odd, BEYOND, Bounds::some, y -> y.fact(0, odd));
    refused("WALK 0 of none", BEYOND, Bounds::nothing, y -> y.fact(0, 0));
    says(32, "FULL.");
    refused("a thirteenth", FULL, Bounds::full, y -> y.fact(0, 0));
    refused("a thirteenth, the same as one ahead", FULL, Bounds::full, y -> y.fact(9, 1));
    refused("a thirteenth of WALK 10: BEYOND ahead of FULL", BEYOND, Bounds::full, y -> y.fact(10, 0));
    refused("a thirteenth of odd 2: BEYOND ahead of FULL", BEYOND, Bounds::full, y -> y.fact(0, 2));
    due("FACTS behind it", 12, Bounds::full, y -> y.fact(0, 0) == FULL ? y.count(5) : -1);
  }

  private static void forget() {
    says(33, "All FACTS are forgotten: how many there were.");
    due("none yet", 0, Bounds::nothing, x -> x.forget());
    due("one", 1, DoubtBounds::six, x -> x.fact(0, 0) == 0 ? x.forget() : -1);
    due("twelve", 12, Bounds::full, x -> x.forget());
    due("none any more", 0, Bounds::full, x -> x.forget() == 12 ? x.forget() : -1);
    due("how many there are then", 0, Bounds::full, x -> x.forget() == 12 ? x.count(5) : -1);
    due("the next is the first", 0, Bounds::full, x -> x.forget() == 12 ? x.fact(0, 0) : -1);
    due("all ways agree again", 64, DoubtBounds::six, x -> {
      x.fact(0, 0);
      x.fact(0, 1);
      return x.agree() + x.forget() == 2 ? x.agree() : -1;
    });
    due("JOINS are in DOUBT still", 63, DoubtBounds::six, x -> x.forget() == 0 ? x.count(10) : -1);
  }

  private static void agree() {
    says(34, "AGREE.");
    term(3, "AGREE: in how many of all ways in which JOINS in DOUBT may be FACTS are all so"
        + " (FACTS of WALKS that can't be gone now are not so).");
    for (int n = 0; n <= 6; n++) {
      int many = n;
      due(n + " in DOUBT, no FACTS", 1 << n, DoubtBounds::six, x -> x.doubt((1 << many) - 1) == 63 ? x.agree() : -1);
      due("six in DOUBT, " + n + " FACTS", 64 >> n, DoubtBounds::six, x -> {
        for (int f = 0; f < many; f++) x.fact(f, f % 2);
        return x.agree();
      });
    }
    for (int j = 0; j < 6; j++) {
      int join = j;
      due("FACT of JOIN " + j + ", as told", 1, DoubtBounds::six, x -> x.doubt(0) + x.fact(join, join % 2) == 63 ? x.agree() : -1);
      due("FACT of JOIN " + j + ", not as told", 0, DoubtBounds::six,
          x -> x.doubt(0) + x.fact(join, 1 - join % 2) == 63 ? x.agree() : -1);
    }
    due("no JOINS, no WALKS", 1, Bounds::nothing, x -> x.agree());
    due("a FACT said twelve times", 32, DoubtBounds::six, x -> {
      for (int f = 0; f < 12; f++) x.fact(5, 1);
      return x.agree();
    });
    due("the twelfth FACT against the others", 0, DoubtBounds::six, x -> {
      for (int f = 0; f < 11; f++) x.fact(5, 1);
      x.fact(5, 0);
      return x.agree();
    });
    for (int bit = 0; bit < 16; bit++) {
      int join = bit;
      due("JOIN " + bit + " of sixteen alone in DOUBT", 2, Bounds::full, x -> {
        x.forget();
        x.doubt(1 << join);
        return x.agree();
      });
    }
  }

  private static void agreeTerm() {
    term(3, "FACTS 0 .. (at most 12): of a WALK that can be gone: one's HAND behind it was as ahead (0), or not (1).");
    for (int turned = 0; turned <= 1; turned++) {
      for (int odd = 0; odd <= 1; odd++) {
        TurnedLand x = land(1);
        x.join(EAST, WEST, turned);
        x.walk(0, 0, 1);
        x.walk(0, 0, 11);
        x.walk(0, 0, 11111113);
        x.walk(0, 0, 1111111);
        x.walk(0, 0, 0);
        String about = "JOIN " + turned + ", odd " + odd;
        for (int w = 0; w < 5; w++) {
          boolean crossesOdd = w == 0 || w == 3;
          x.fact(w, odd);
          due(about + ", as told, WALK " + w, (crossesOdd ? turned : 0) == odd ? 1 : 0, x.agree());
          x.doubt(1);
          due(about + ", in DOUBT, WALK " + w, crossesOdd ? 1 : odd == 0 ? 2 : 0, x.agree());
          x.doubt(0);
          x.forget();
        }
      }
    }
  }

  private static void factsThatCannotBeGone() {
    term(3, "AGREE: in how many of all ways in which JOINS in DOUBT may be FACTS are all so"
        + " (FACTS of WALKS that can't be gone now are not so).");
    for (int odd = 0; odd <= 1; odd++) {
      TurnedLand x = land(1);
      x.walk(0, 0, 1);
      x.walk(0, 0, 0);
      x.fact(1, 0);
      due("a WALK of no EDGES can be gone", 1, x.agree());
      x.fact(0, odd);
      due("odd " + odd + ": no JOIN yet", 0, x.agree());
      x.join(EAST, WEST, odd);
      due("odd " + odd + ": joined now", 1, x.agree());
      x.turn(0, 1 - odd);
      due("odd " + odd + ": turned", 0, x.agree());
      x.doubt(1);
      due("odd " + odd + ": in DOUBT", 1, x.agree());
      x.part();
      due("odd " + odd + ": RIM again", 0, x.agree());
    }
  }

  private static void known() {
    says(35, "KNOWN.");
    term(3, "KNOWN of a JOIN: as told (0 STRAIGHT, 1 TURNED), if it isn't in DOUBT; else 0, 1 if it is so in all of these, 2 if"
        + " in some alone; NONE without any.");
    for (int j = 0; j < 6; j++) {
      int join = j;
      due("JOIN " + j + " isn't in DOUBT", j % 2, DoubtBounds::six, x -> x.doubt(0) == 63 ? x.known(join) : -1);
      due("JOIN " + j + " in DOUBT, no FACTS", 2, DoubtBounds::six, x -> x.known(join));
      for (int odd = 0; odd <= 1; odd++) {
        int turned = odd;
        due("JOIN " + j + ", a FACT of it, odd " + odd, odd, DoubtBounds::six, x -> x.fact(join, turned) == 0 ? x.known(join) : -1);
        due("JOIN " + j + ", a FACT of the next", 2, DoubtBounds::six,
            x -> x.fact((join + 1) % 6, turned) == 0 ? x.known(join) : -1);
      }
    }
    due("the last of sixteen, in DOUBT alone", 2, Bounds::full,
        x -> x.forget() + x.doubt(0x8000) == 12 + 0xFC00 ? x.known(15) : -1);
    due("the last of sixteen, not in DOUBT", 1, Bounds::full,
        x -> x.forget() + x.doubt(0x4000) == 12 + 0xFC00 ? x.known(15) : -1);
    says(35, "BEYOND.");
    for (int j : new int[] {-1, 16}) refusedEverywhere("JOIN " + j, BEYOND, x -> x.known(j));
    for (int j : new int[] {4, MIN, MAX}) refused("JOIN " + j + " of four", BEYOND, Bounds::some, x -> x.known(j));
    refused("JOIN 6 of six, no way agrees: BEYOND ahead of NONE", BEYOND, DoubtBounds::contrary, x -> x.known(6));
  }

  private static void contrary(TurnedLand x) {
    six(x);
    x.fact(0, 0);
    x.fact(0, 1);
  }

  private static void knownNone() {
    says(35, "NONE.");
    for (int j = 0; j < 6; j += 5) {
      int join = j;
      refused("JOIN " + j + ", no way agrees", NONE, DoubtBounds::contrary, x -> x.known(join));
    }
    refused("no way agrees, where there is some of all", NONE, x -> {
      some(x);
      x.fact(0, 1);
    }, x -> x.known(0));
    refused("a FACT of a WALK that can't be gone", NONE, x -> {
      six(x);
      x.walk(0, 0, 4);
      x.fact(6, 0);
    }, x -> x.known(3));
    due("JOIN 1 isn't in DOUBT: as told", 1, DoubtBounds::contrary, x -> x.doubt(1) == 63 ? x.known(1) : -1);
    due("told(2) then", 0, DoubtBounds::contrary, x -> x.doubt(1) + x.known(1) == 64 ? x.told(2) : -1);
    due("one way agrees", 1, DoubtBounds::six, x -> {
      for (int f = 0; f < 6; f++) x.fact(f, 1);
      return x.agree() == 1 ? x.known(5) : -1;
    });
  }

  private static void test() {
    says(36, "TEST.");
    term(3, "TEST: the WALK that can be gone for which the greater part of these (HAND as ahead; not) is least;"
        + " of several the least.");
    for (int best = 0; best < 10; best++) {
      TurnedLand x = land(1, 1);
      x.join(edge(0, EAST), edge(0, WEST), STRAIGHT);
      x.join(edge(1, EAST), edge(1, WEST), STRAIGHT);
      for (int w = 0; w < 10; w++) x.walk(0, w == best ? 1 : 0, 1);
      x.doubt(2);
      due("WALK " + best + " of ten", best, x.test());
      x.doubt(1);
      due("all but WALK " + best, best == 0 ? 1 : 0, x.test());
      x.doubt(3);
      due("all alike", 0, x.test());
      x.doubt(0);
      due("none tells anything", 0, x.test());
    }
    due("none tells anything, the first can't be gone", 1, x -> {
      x.square(1);
      x.join(EAST, WEST, TURNED);
      x.walk(0, 0, 2);
      x.walk(0, 0, 1);
      x.walk(0, 0, 0);
    }, x -> x.test());
  }

  private static void testOfSeveral() {
    due("no way agrees: the least WALK", 0, DoubtBounds::contrary, x -> x.test());
    due("what is known tells nothing, the next does", 1, DoubtBounds::six, x -> x.fact(0, 1) == 0 ? x.test() : -1);
    due("what is known tells nothing, the last does", 5, DoubtBounds::six, x -> {
      for (int f = 0; f < 5; f++) x.fact(f, 0);
      return x.test();
    });
    due("all is known: the least", 0, DoubtBounds::six, x -> {
      for (int f = 0; f < 6; f++) x.fact(f, 0);
      return x.test();
    });
    TurnedLand x = land(1, 1);
    x.join(edge(0, EAST), edge(1, WEST), STRAIGHT);
    x.join(edge(0, NORTH), edge(1, SOUTH), STRAIGHT);
    x.walk(0, 0, 13);
    x.walk(0, 0, 11);
    x.walk(0, 0, 14);
    x.walk(0, 0, 1);
    x.doubt(3);
    due("WALK 0 tells nothing, WALK 1 can't be gone", 2, x.test());
    x.fact(2, 1);
    due("both JOINS together are known", 3, x.test());
    x.fact(3, 1);
    due("both are known", 0, x.test());
    due("one way agrees", 1, x.agree());
  }

  private static void testNone() {
    says(36, "NONE: no WALK can be gone.");
    refused("no WALKS", NONE, Bounds::nothing, x -> x.test());
    refused("four WALKS that can be gone no more", NONE, Bounds::someParted, x -> x.test());
    refused("SQUARES, JOINS, no WALKS", NONE, Bounds::threeBands, x -> x.test());
    refused("ten WALKS that can't be gone", NONE, x -> {
      x.square(1);
      for (int w = 0; w < 10; w++) x.walk(0, 0, 1 + w % 4);
    }, x -> x.test());
    due("the tenth can", 9, x -> {
      x.square(1);
      for (int w = 0; w < 9; w++) x.walk(0, 0, 1 + w % 4);
      x.walk(0, 0, 0);
    }, x -> x.test());
  }

  private static void seed() {
    says(37, "z becomes v: what it was (any number).");
    TurnedLand x = new TurnedLand();
    int was = 1;
    for (int v : new int[] {0, -1, MAX, MIN, LOW, BEYOND, NONE, STATE, FULL, KIND, PARTED, 1}) {
      due("z " + v, was, x.seed(v));
      due("z " + v + " then", v, x.count(9));
      was = v;
    }
    for (int k = 1; k <= 6; k++) due("a number that looks like an ERROR isn't one, told(" + k + ")", 0, x.told(k));
    due("of a full land", 1, Bounds::full, y -> y.seed(7));
  }
}
