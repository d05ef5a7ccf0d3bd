/** Boundary cases of promises 23 to 30, and of what the Terms say of PEOPLE, THINGS, MEET, WHERE, a STROLL. */
final class FolkBounds extends Bounds {
  private FolkBounds() {
  }

  static void all() {
    person();
    personIs();
    hoursHeld();
    cross();
    stroll();
    strollTerm();
    meet();
    meetNone();
    meetTerm();
    thing();
    thingRefused();
    thingIs();
    bring();
    bringHand();
    bringLess();
    bringNone();
  }

  private static void person() {
    says(23, "One of PEOPLE at a place: the number.");
    TurnedLand x = land(1, 1, 1, 1, 1, 1, 1, 1);
    int[] places = {0, 15, 1, 14, 15, 0};
    for (int p = 0; p < 6; p++) due("one of PEOPLE, " + p, p, x.person(places[p]));
    for (int p = 0; p < 6; p++) due("the place of " + p, places[p], x.personIs(p, 0));
    for (int p = 0; p < 6; p++) due("HOURS of " + p, 0, x.personIs(p, 1));
    says(23, "BEYOND.");
    for (int p : new int[] {-1, 16}) refusedEverywhere("place " + p, BEYOND, y -> y.person(p));
    for (int p : new int[] {MIN, MAX}) refused("place " + p, BEYOND, Bounds::some, y -> y.person(p));
    due("place 9, the last of five SQUARES", 3, Bounds::some, y -> y.person(9));
    refused("place 10 of five SQUARES", BEYOND, Bounds::some, y -> y.person(10));
    says(23, "FULL.");
    due("the sixth", 5, Bounds::some, y -> y.person(0) + y.person(0) == 7 ? y.person(0) : -1);
    refused("a seventh", FULL, Bounds::full, y -> y.person(0));
    refused("a seventh at the last place", FULL, Bounds::full, y -> y.person(15));
    refused("a seventh at place 16: BEYOND ahead of FULL", BEYOND, Bounds::full, y -> y.person(16));
    refused("a seventh at place -1: BEYOND ahead of FULL", BEYOND, Bounds::full, y -> y.person(-1));
    due("PEOPLE behind it", 6, Bounds::full, y -> y.person(0) == FULL ? y.count(3) : -1);
  }

  private static void personIs() {
    says(24, "Of one of PEOPLE: 0 the place, 1 HOURS.");
    due("what 0", 2, Bounds::some, x -> x.personIs(2, 0));
    due("what 1", 7, Bounds::some, x -> x.personIs(2, 1));
    due("the last of six", 10, Bounds::full, x -> x.personIs(5, 0));
    says(24, "BEYOND.");
    for (int p : new int[] {-1, 6}) refusedEverywhere("one of PEOPLE, " + p, BEYOND, x -> x.personIs(p, 0));
    for (int p : new int[] {3, MIN, MAX}) refused(p + " of three", BEYOND, Bounds::some, x -> x.personIs(p, 0));
    for (int v : new int[] {-1, 2, MIN, MAX}) refused("what " + v, BEYOND, Bounds::some, x -> x.personIs(0, v));
  }

  /** All EDGES of one SQUARE are joined, so that each draw is a CROSSING; 1000 of them of 999 hours. */
  private static void nearlyHeld(TurnedLand x) {
    x.square(1);
    x.join(EAST, WEST, STRAIGHT);
    x.join(NORTH, SOUTH, TURNED);
    x.person(0);
    text(x, 0, "999");
    for (int i = 0; i < 16; i++) x.stroll(0, 60);
    x.stroll(0, 40);
  }

  private static void hoursHeld() {
    term(1, "PEOPLE 0, 1, .. (at most 6) stand in a SQUARE with a HAND, and have been gone for so many HOURS"
        + " (0 at first; held at 999999).");
    due("HOURS at first", 0, x -> {
      x.square(99);
      x.person(1);
    }, x -> x.personIs(0, 1));
    due("HOURS at first of one whose number another one had", 0, x -> {
      x.square(99);
      x.join(EAST, WEST, STRAIGHT);
      x.image();
      x.person(1);
      x.cross(0, EAST);
      x.restore();
      x.person(0);
    }, x -> x.personIs(0, 1));
    due("1000 CROSSINGS of 999 hours", 999000, FolkBounds::nearlyHeld, x -> x.personIs(0, 1));
    int[][] more = {{998, 999998}, {999, 999999}};
    for (int[] m : more) {
      due(m[0] + " more", m[1], FolkBounds::nearlyHeld, x -> {
        text(x, 0, "" + m[0]);
        x.cross(0, EAST);
        return x.personIs(0, 1);
      });
      for (String last : new String[] {"1", "2", "3", "999"}) {
        due(m[0] + " more, then " + last, 999999, FolkBounds::nearlyHeld, x -> {
          text(x, 0, "" + m[0]);
          x.cross(0, EAST);
          text(x, 0, last);
          x.cross(0, NORTH);
          return x.personIs(0, 1);
        });
        due(m[0] + " more, then " + last + " in a STROLL", 999999, FolkBounds::nearlyHeld, x -> {
          text(x, 0, "" + m[0]);
          x.stroll(0, 1);
          text(x, 0, last);
          x.stroll(0, 1);
          return x.personIs(0, 1);
        });
      }
    }
    due("held in the midst of a STROLL", 999999, FolkBounds::nearlyHeld, x -> x.stroll(0, 60) >= 0 ? x.personIs(0, 1) : -1);
    due("who is held still goes", 1, FolkBounds::nearlyHeld, x -> {
      x.stroll(0, 60);
      return x.personIs(0, 0) ^ x.cross(0, NORTH);
    });
    due("another one isn't held", 999, FolkBounds::nearlyHeld, x -> {
      x.stroll(0, 60);
      x.person(0);
      x.cross(1, EAST);
      return x.personIs(1, 1);
    });
  }

  private static void cross() {
    says(25, "One of PEOPLE crosses an EDGE (0 .. 3): the place then.");
    for (int side = 0; side < 4; side++) {
      for (int hand = 0; hand <= 1; hand++) {
        TurnedLand x = land(9, 8, 1, 1, 1, 1, 1, 1);
        x.join(edge(0, side), edge(7, 3 - side), hand);
        x.person(1);
        due("EDGE " + side + " to the last SQUARE", 15 - hand, x.cross(0, side));
        due("its HOURS", 9, x.personIs(0, 1));
        due("and back by EDGE " + (3 - side), 1, x.cross(0, 3 - side));
        due("HOURS in all", 10, x.personIs(0, 1));
      }
    }
    says(25, "BEYOND.");
    for (int p : new int[] {-1, 6}) refusedEverywhere("one of PEOPLE, " + p, BEYOND, x -> x.cross(p, 0));
    for (int p : new int[] {3, MIN, MAX}) refused(p + " of three", BEYOND, Bounds::some, x -> x.cross(p, 0));
    for (int e : new int[] {-1, 4, MIN, MAX}) {
      refused("EDGE " + e, BEYOND, Bounds::some, x -> x.cross(2, e));
      refused("EDGE " + e + " of a SQUARE alone: BEYOND ahead of STATE", BEYOND, x -> {
        x.square(1);
        x.person(0);
      }, x -> x.cross(0, e));
    }
    says(25, "STATE: there is RIM.");
    for (int e : new int[] {1, 3}) refused("EDGE " + e, STATE, Bounds::some, x -> x.cross(2, e));
    for (int e = 0; e < 4; e++) {
      int side = e;
      refused("EDGE " + e + " of a SQUARE alone", STATE, x -> {
        some(x);
        x.person(8);
      }, x -> x.cross(3, side));
    }
    due("the place behind it", 2, Bounds::some, x -> x.cross(2, 1) == STATE ? x.personIs(2, 0) : -1);
    due("HOURS behind it", 7, Bounds::some, x -> x.cross(2, 1) == STATE ? x.personIs(2, 1) : -1);
    due("z behind it", 99, x -> {
      x.square(1);
      x.person(0);
      x.seed(99);
    }, x -> x.cross(0, 0) == STATE ? x.count(9) : -1);
  }

  private static int drawn(int z, int n) {
    int now = z;
    for (int i = 0; i < n; i++) now = now * 1103515245 + 12345;
    return now;
  }

  private static void stroll() {
    says(26, "A STROLL (n 1 .. 60): the place then.");
    for (int n : new int[] {1, 2, 59, 60}) {
      due("n " + n + ", where all is RIM: one stays", 1, FolkBounds::alone, x -> x.stroll(0, n));
      due("n " + n + ", where all is RIM: no HOURS", 0, FolkBounds::alone, x -> x.stroll(0, n) == 1 ? x.personIs(0, 1) : -1);
      due("n " + n + ", where all is RIM: draws", drawn(1, n), FolkBounds::alone, x -> x.stroll(0, n) == 1 ? x.count(9) : -1);
      for (int k = 1; k <= 6; k++) {
        int error = k;
        due("n " + n + ", where all is RIM: told(" + k + ")", 0, FolkBounds::alone, x -> x.stroll(0, n) == 1 ? x.told(error) : -1);
      }
      due("n " + n + ", where all is joined: HOURS", 99 * n, FolkBounds::closed, x -> x.stroll(0, n) >= 0 ? x.personIs(0, 1) : -1);
      due("n " + n + ", where all is joined: draws", drawn(1, n), FolkBounds::closed, x -> x.stroll(0, n) >= 0 ? x.count(9) : -1);
    }
    says(26, "BEYOND.");
    for (int n : new int[] {0, 61, -1, MIN, MAX}) refused("n " + n, BEYOND, Bounds::some, x -> x.stroll(0, n));
    for (int n : new int[] {0, 61}) refused("n " + n, BEYOND, Bounds::full, x -> x.stroll(5, n));
    for (int p : new int[] {-1, 6}) refusedEverywhere("one of PEOPLE, " + p, BEYOND, x -> x.stroll(p, 1));
    for (int p : new int[] {3, MIN, MAX}) refused(p + " of three", BEYOND, Bounds::some, x -> x.stroll(p, 1));
    due("z behind it", 1, FolkBounds::alone, x -> x.stroll(0, 61) == BEYOND ? x.count(9) : -1);
  }

  private static void alone(TurnedLand x) {
    x.square(99);
    x.person(1);
  }

  private static void closed(TurnedLand x) {
    x.square(99);
    x.join(EAST, WEST, STRAIGHT);
    x.join(NORTH, SOUTH, TURNED);
    x.person(1);
  }

  private static void strollTerm() {
    term(3, "DRAWS: z is told (1 at first); each makes it z * 1103515245 + 12345 (an int), and gives z >>> 8.",
        "A STROLL of one of PEOPLE: n times a draw's rest by 4 is the EDGE; where it isn't joined one stays (no HOURS).");
    due("z at first", 1, new TurnedLand().count(9));
    for (int seed : new int[] {0, 1, -1, MIN, MAX, 12345, -12345}) {
      int z = seed;
      TurnedLand x = land(1, 2, 3, 4, 5);
      for (int side = 0; side < 4; side++) x.join(side, edge(1 + side, WEST), side % 2);
      x.image();
      x.seed(seed);
      for (int i = 0; i < 20; i++) {
        int was = x.seed(z);
        due("z of draw " + i + " from " + seed, z, was);
        z = z * 1103515245 + 12345;
        int side = (z >>> 8) % 4;
        x.restore();
        x.person(0);
        x.seed(was);
        due("the EDGE of draw " + i + " from " + seed, 2 * (1 + side) + side % 2, x.stroll(0, 1));
        due("HOURS of it", 1, x.personIs(0, 1));
      }
    }
    TurnedLand stays = land(7);
    stays.join(EAST, WEST, TURNED);
    stays.person(0);
    int z = 1;
    int hours = 0;
    for (int i = 0; i < 40; i++) {
      z = z * 1103515245 + 12345;
      if ((z >>> 8) % 2 == 0) hours += 7;
      due("east and west are joined, draw " + i, hours / 7 % 2, stays.stroll(0, 1));
      due("HOURS of these alone", hours, stays.personIs(0, 1));
    }
  }

  private static void meet() {
    says(27, "Two of PEOPLE: what 0 1 if they can shake hands (one place), else 0; 1 MEET; 2 WHERE.");
    Acts three = x -> {
      x.square(4);
      x.square(9);
      x.join(edge(0, EAST), edge(1, WEST), STRAIGHT);
      x.person(0);
      x.person(0);
      x.person(1);
      x.person(2);
    };
    int[][] want = {{0, 1, 1, 0, 0}, {1, 0, 1, 0, 0}, {0, 3, 0, 4, 1}, {3, 0, 0, 4, 1}};
    for (int[] w : want) {
      for (int what = 0; what <= 2; what++) {
        int of = what;
        due(w[0] + " and " + w[1] + ", what " + what, w[2 + what], three, x -> x.meet(w[0], w[1], of));
      }
    }
    due("one SQUARE, unlike HANDS", 0, three, x -> x.meet(0, 2, 0));
    due("they don't go", 0, three, x -> x.meet(0, 3, 1) == 4 ? x.personIs(0, 0) + x.personIs(0, 1) : -1);
    due("the first and the last of six", 0, Bounds::full, x -> x.meet(0, 5, 0));
    says(27, "BEYOND: also one twice.");
    for (int p : new int[] {-1, 6}) {
      refusedEverywhere("one " + p, BEYOND, x -> x.meet(p, 0, 0));
      refusedEverywhere("other " + p, BEYOND, x -> x.meet(0, p, 0));
    }
    for (int p : new int[] {3, MIN, MAX}) {
      refused("one " + p + " of three", BEYOND, Bounds::some, x -> x.meet(p, 0, 0));
      refused("other " + p + " of three", BEYOND, Bounds::some, x -> x.meet(0, p, 0));
      refused("one twice, " + p + " of three", BEYOND, Bounds::some, x -> x.meet(p, p, 0));
    }
    for (int what = 0; what <= 2; what++) {
      int of = what;
      refused("one twice, what " + what, BEYOND, Bounds::some, x -> x.meet(1, 1, of));
    }
    for (int what : new int[] {-1, 3, MIN, MAX}) {
      refused("what " + what, BEYOND, Bounds::some, x -> x.meet(1, 2, what));
      refused("what " + what + ", they can't meet: BEYOND ahead of NONE", BEYOND, three, x -> x.meet(0, 2, what));
    }
  }

  private static void meetNone() {
    says(27, "NONE (1, 2): they can't.");
    for (int what = 1; what <= 2; what++) {
      int of = what;
      refused("in one SQUARE with unlike HANDS, what " + what, NONE, x -> {
        x.square(1);
        x.person(0);
        x.person(1);
      }, x -> x.meet(0, 1, of));
      refused("in SQUARES apart, what " + what, NONE, Bounds::some, x -> x.meet(0, 1, of));
      refused("in SQUARES apart, the other way, what " + what, NONE, Bounds::some, x -> x.meet(1, 0, of));
    }
    due("what 0 is no ERROR then", 0, Bounds::some, x -> x.meet(0, 1, 0));
    due("told(2) behind what 0", 0, Bounds::some, x -> x.meet(0, 1, 0) == 0 ? x.told(2) : -1);
  }

  private static void meetTerm() {
    term(3, "MEET of two of PEOPLE: the least HOURS of both together to stand in one SQUARE with the same HAND (they don't go).",
        "WHERE they would: the least SQUARE of those (with any HAND).");
    TurnedLand x = land(9, 5, 5, 9);
    x.join(edge(1, EAST), edge(2, WEST), TURNED);
    x.person(3);
    x.person(4);
    due("one comes to the other", 5, x.meet(0, 1, 1));
    due("two SQUARES as soon: the least, though with HAND 1", 1, x.meet(0, 1, 2));
    x.cost(1, 4);
    due("the greater SQUARE, as it is sooner", 2, x.meet(0, 1, 2));
    x.cost(1, 6);
    due("the least SQUARE, sooner", 1, x.meet(0, 1, 2));
    TurnedLand same = land(1, 1);
    same.join(edge(0, EAST), edge(1, WEST), STRAIGHT);
    same.person(2);
    same.person(2);
    due("they stand there: 0 hours", 0, same.meet(0, 1, 1));
    due("they stand there: their SQUARE, though SQUARE 0 is less", 1, same.meet(0, 1, 2));
    TurnedLand last = land(9, 9, 9, 9, 9, 9, 1, 1);
    last.join(edge(7, EAST), edge(6, WEST), STRAIGHT);
    last.join(edge(7, WEST), edge(5, EAST), TURNED);
    last.person(12);
    last.person(15);
    due("SQUARES 6 and 7, unlike HANDS", NONE, last.meet(0, 1, 1));
    last.join(edge(6, NORTH), edge(7, SOUTH), TURNED);
    due("one comes to the other, turned", 1, last.meet(0, 1, 1));
    due("SQUARE 6 is less than 7", 6, last.meet(0, 1, 2));
    last.cost(7, 2);
    due("SQUARE 7 is sooner", 7, last.meet(0, 1, 2));
  }

  private static void thing() {
    says(28, "A THING: its number.");
    term(1, "THINGS 0, 1, .. (at most 6) lie in a SQUARE with a HAND, have a WORTH (0 .. 9999), and are ALIKE both ways (1)"
        + " or not (0).");
    TurnedLand x = land(1, 1, 1, 1, 1, 1, 1, 1);
    int[][] things = {{0, 0, 0}, {15, 9999, 1}, {14, 1, 0}, {1, 9998, 1}, {0, 9999, 0}, {15, 0, 1}};
    for (int t = 0; t < 6; t++) due("THING " + t, t, x.thing(things[t][0], things[t][1], things[t][2]));
    for (int t = 0; t < 6; t++) {
      for (int what = 0; what <= 2; what++) due("THING " + t + ", what " + what, things[t][what], x.thingIs(t, what));
    }
    says(28, "FULL.");
    refused("a seventh", FULL, Bounds::full, y -> y.thing(0, 1, 0));
    refused("a seventh at place 16: BEYOND ahead of FULL", BEYOND, Bounds::full, y -> y.thing(16, 1, 0));
    refused("a seventh of WORTH 10000: BEYOND ahead of FULL", BEYOND, Bounds::full, y -> y.thing(0, 10000, 0));
    refused("a seventh of ALIKE 2: BEYOND ahead of FULL", BEYOND, Bounds::full, y -> y.thing(0, 1, 2));
    due("THINGS behind it", 6, Bounds::full, y -> y.thing(0, 1, 0) == FULL ? y.count(4) : -1);
    due("the sixth", 5, Bounds::some, y -> y.thing(0, 1, 0) + y.thing(0, 1, 0) + y.thing(0, 1, 0) == 9 ? y.thing(0, 1, 0) : -1);
  }

  private static void thingRefused() {
    says(28, "BEYOND: place, WORTH, ALIKE.");
    for (int p : new int[] {-1, 16}) refusedEverywhere("place " + p, BEYOND, x -> x.thing(p, 1, 0));
    for (int p : new int[] {10, MIN, MAX}) refused("place " + p + " of five SQUARES", BEYOND, Bounds::some, x -> x.thing(p, 1, 0));
    for (int w : new int[] {-1, 10000, MIN, MAX}) refused("WORTH " + w, BEYOND, Bounds::some, x -> x.thing(0, w, 0));
    for (int a : new int[] {-1, 2, MIN, MAX}) refused("ALIKE " + a, BEYOND, Bounds::some, x -> x.thing(0, 1, a));
    due("place 9, the last of five SQUARES", 2, Bounds::some, x -> x.thing(9, 9999, 1));
  }

  private static void thingIs() {
    says(29, "Of a THING: 0 the place, 1 WORTH, 2 ALIKE, 3 PRICE to a HAND 0, 4 PRICE to a HAND 1.");
    TurnedLand x = land(1, 1, 1, 1, 1, 1, 1, 1);
    x.thing(15, 9999, 0);
    x.thing(0, 1, 0);
    x.thing(14, 9999, 1);
    int[][] want = {{15, 9999, 0, 4999, 9999}, {0, 1, 0, 1, 0}, {14, 9999, 1, 9999, 9999}};
    for (int t = 0; t < 3; t++) {
      for (int what = 0; what <= 4; what++) due("THING " + t + ", what " + what, want[t][what], x.thingIs(t, what));
    }
    says(29, "BEYOND.");
    for (int t : new int[] {-1, 6}) refusedEverywhere("THING " + t, BEYOND, y -> y.thingIs(t, 0));
    for (int t : new int[] {2, MIN, MAX}) refused("THING " + t + " of two", BEYOND, Bounds::some, y -> y.thingIs(t, 0));
    for (int v : new int[] {-1, 5, MIN, MAX}) refused("what " + v, BEYOND, Bounds::some, y -> y.thingIs(0, v));
  }

  private static void bring() {
    says(30, "The THING worth most to one of PEOPLE, as it is brought to their SQUARE (it goes as somebody would with its HAND,"
        + " the SOONEST way to that SQUARE with either HAND, of two as soon that with HAND 0): PRICE by the HAND with which it"
        + " comes, less the HOURS; of several the least.");
    for (int best = 0; best < 6; best++) {
      TurnedLand x = land(2);
      for (int t = 0; t < 6; t++) x.thing(0, t == best ? 9999 : 9998, 0);
      x.person(0);
      due("THING " + best + " of six", best, x.bring(0));
      TurnedLand y = land(2);
      for (int t = 0; t < 6; t++) y.thing(0, t < best ? 7 : 8, 0);
      y.person(0);
      due("of several the least, from " + best + " on", best, y.bring(0));
    }
    TurnedLand here = land(5, 1);
    here.join(edge(0, EAST), edge(1, WEST), STRAIGHT);
    here.thing(0, 0, 0);
    here.person(0);
    due("where it lies, of no WORTH", 0, here.bring(0));
    here.thing(2, 1, 0);
    due("from a SQUARE of one hour, WORTH 1: as much, so the least", 0, here.bring(0));
    here.thing(2, 2, 0);
    due("from a SQUARE of one hour, WORTH 2", 2, here.bring(0));
    due("nothing has been brought", 2, here.thingIs(2, 0));
    says(30, "BEYOND.");
    for (int p : new int[] {-1, 6}) refusedEverywhere("one of PEOPLE, " + p, BEYOND, x -> x.bring(p));
    for (int p : new int[] {3, MIN, MAX}) refused(p + " of three", BEYOND, Bounds::some, x -> x.bring(p));
  }

  private static void bringHand() {
    says(30, "the SOONEST way to that SQUARE with either HAND, of two as soon that with HAND 0)");
    for (int lies = 0; lies <= 1; lies++) {
      for (int hand = 0; hand <= 1; hand++) {
        TurnedLand x = land(5, 5);
        x.join(edge(0, EAST), edge(1, WEST), STRAIGHT);
        x.join(edge(0, NORTH), edge(1, SOUTH), TURNED);
        x.thing(lies, 100, 0);
        x.thing(2 + hand, 70, 0);
        x.person(2 + hand);
        due("both HANDS as soon, it lies with " + lies + ", comes with 0, to " + hand, hand, x.bring(0));
        text(x, 0, "5-j");
        due("one hour sooner by the TURNED JOIN, it lies with " + lies + ", to " + hand, lies == hand ? 1 : 0, x.bring(0));
        text(x, 0, "5+j");
        due("one hour later by the TURNED JOIN, it lies with " + lies + ", to " + hand, lies == hand ? 0 : 1, x.bring(0));
      }
      TurnedLand one = land(5);
      one.join(EAST, WEST, TURNED);
      one.thing(lies, 10, 0);
      one.thing(1 - lies, 9, 0);
      one.person(1 - lies);
      due("where it lies it comes as it lies", 1, one.bring(0));
    }
  }

  private static void bringLess() {
    says(30, "PRICE by the HAND with which it comes, less the HOURS; of several the least.");
    TurnedLand x = land(99, 50, 1);
    x.join(edge(0, EAST), edge(2, WEST), STRAIGHT);
    x.join(edge(1, EAST), edge(2, EAST), STRAIGHT);
    x.thing(0, 0, 0);
    x.person(4);
    due("less than nothing is brought, too", 0, x.bring(0));
    x.thing(2, 0, 0);
    due("-50 is more than -99", 1, x.bring(0));
    x.thing(0, 48, 0);
    due("-51 is less than -50", 1, x.bring(0));
    x.thing(0, 49, 0);
    due("-50 again, the least stays", 1, x.bring(0));
    x.thing(0, 50, 0);
    due("-49 is more", 4, x.bring(0));
    text(x, 1, "w*9999");
    due("PRICE held at 9999 of three: the least", 2, x.bring(0));
    x.thing(4, 9999, 0);
    due("PRICE held at 9999, no HOURS", 5, x.bring(0));
  }

  private static void bringNone() {
    says(30, "NONE: none can be brought.");
    refused("no THINGS", NONE, FolkBounds::alone, x -> x.bring(0));
    refused("no THING that isn't apart", NONE, x -> {
      alone(x);
      x.square(1);
      x.thing(2, 9999, 1);
      x.thing(3, 9999, 1);
    }, x -> x.bring(0));
    due("one that isn't apart", 2, x -> {
      alone(x);
      x.square(1);
      x.thing(2, 9999, 1);
      x.thing(3, 9999, 1);
      x.thing(0, 0, 0);
    }, x -> x.bring(0));
    due("one apart, the first", 1, x -> {
      alone(x);
      x.square(1);
      x.thing(2, 9999, 1);
      x.thing(1, 0, 0);
    }, x -> x.bring(0));
    refused("no THING comes to a SQUARE alone", NONE, x -> {
      some(x);
      x.person(8);
    }, x -> x.bring(3));
    refused("no such one of PEOPLE, no THINGS: BEYOND ahead of NONE", BEYOND, FolkBounds::alone, x -> x.bring(1));
  }
}
