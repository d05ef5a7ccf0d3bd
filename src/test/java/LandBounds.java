/** Boundary cases of promises 1 to 10, and of what the Terms say of SQUARES, JOINS, THE LAND, PLAIN. */
final class LandBounds extends Bounds {
  private LandBounds() {
  }

  static void all() {
    newObject();
    square();
    squaresTerm();
    cost();
    join();
    joinRefused();
    joinFull();
    joinsTerm();
    joinIs();
    turn();
    part();
    across();
    landWhat();
    corners();
    cornersOfOneSquare();
    landNumbers();
    partsAndRims();
    lastRims();
    comesHome();
    ringsInAnyOrder();
    plain();
    plainOfSixteen();
  }

  private static void newObject() {
    says(1, "No SQUARES.");
    due("SQUARES of a new object", 0, new TurnedLand().count(0));
    for (int what = 1; what <= 8; what++) due("count(" + what + ") of a new object", 0, new TurnedLand().count(what));
    due("JOINS in DOUBT of a new object", 0, new TurnedLand().count(10));
    for (int k = 1; k <= 6; k++) due("told(" + k + ") of a new object", 0, new TurnedLand().told(k));
    refused("cost() of SQUARE 0", BEYOND, Bounds::nothing, x -> x.cost(0, 1));
    refused("join() of EDGES 0, 1", BEYOND, Bounds::nothing, x -> x.join(0, 1, 0));
    refused("joinIs() of JOIN 0", BEYOND, Bounds::nothing, x -> x.joinIs(0, 0));
    refused("turn() of JOIN 0", BEYOND, Bounds::nothing, x -> x.turn(0, 1));
    refused("across() of EDGE 0", BEYOND, Bounds::nothing, x -> x.across(0));
    refused("soonest() of place 0", BEYOND, Bounds::nothing, x -> x.soonest(0, 0));
    refused("reached() of place 0", BEYOND, Bounds::nothing, x -> x.reached(0));
    refused("first() of place 0", BEYOND, Bounds::nothing, x -> x.first(0, 0));
    refused("walk() from SQUARE 0", BEYOND, Bounds::nothing, x -> x.walk(0, 0, 0));
    refused("person() at place 0", BEYOND, Bounds::nothing, x -> x.person(0));
    refused("thing() at place 0", BEYOND, Bounds::nothing, x -> x.thing(0, 1, 0));
    refused("known() of JOIN 0", BEYOND, Bounds::nothing, x -> x.known(0));
    for (int what = 0; what <= 5; what++) due("land(" + what + ") without SQUARES", 0, new TurnedLand().land(what));
    due("plain() without SQUARES", 0, new TurnedLand().plain());
    due("agree() without SQUARES", 1, new TurnedLand().agree());
  }

  private static void square() {
    says(2, "A SQUARE: its number.");
    TurnedLand x = new TurnedLand();
    for (int i = 0; i < 8; i++) due("SQUARE " + i, i, x.square(i + 1));
    says(2, "BEYOND.");
    refusedEverywhere("cost 0, the last too small", BEYOND, y -> y.square(0));
    refusedEverywhere("cost 100, the first too large", BEYOND, y -> y.square(100));
    for (int v : new int[] {-1, MIN, MAX}) refused("cost " + v, BEYOND, Bounds::some, y -> y.square(v));
    due("cost 1, the first not too small", 5, Bounds::some, y -> y.square(1));
    due("cost 99, the last not too large", 5, Bounds::some, y -> y.square(99));
    says(2, "FULL.");
    due("the eighth SQUARE", 7, land(1, 1, 1, 1, 1, 1, 1).square(1));
    refused("a ninth SQUARE", FULL, Bounds::full, y -> y.square(1));
    refused("a ninth SQUARE of 99 hours", FULL, Bounds::full, y -> y.square(99));
    refused("a ninth SQUARE of 100 hours: BEYOND ahead of FULL", BEYOND, Bounds::full, y -> y.square(100));
    due("SQUARES behind a refused one", 8, Bounds::full, y -> y.square(1) == FULL ? y.count(0) : 0);
  }

  private static void squaresTerm() {
    term(1, "SQUARES 0, 1, .. (at most 8) each have EDGES 0 east, 1 north, 2 west, 3 south, and a COST (1 .. 99 hours).");
    TurnedLand x = land(1, 99);
    due("the least COST", 1, x.cost(0, 99));
    due("the greatest COST", 99, x.cost(1, 1));
    due("the greatest COST, set", 99, x.cost(0, 5));
    due("the least COST, set", 1, x.cost(1, 5));
    term(1, "EDGES are told as 4 times the SQUARE and the EDGE.");
    TurnedLand eight = land(1, 1, 1, 1, 1, 1, 1, 1);
    due("EDGE 0, the first", NONE, eight.across(0));
    due("EDGE 31, the last of eight SQUARES", NONE, eight.across(31));
    due("EDGE 32", BEYOND, eight.across(32));
    due("EDGE 3, the last of one SQUARE", NONE, land(1).across(3));
    due("EDGE 4 of one SQUARE", BEYOND, land(1).across(4));
    eight.join(31, 0, STRAIGHT);
    eight.person(14);
    due("south of SQUARE 7 to east of SQUARE 0", 0, eight.cross(0, SOUTH));
    due("east of SQUARE 0 to south of SQUARE 7", 14, eight.cross(0, EAST));
    term(1, "Where an EDGE isn't joined there is RIM.");
    for (int e = 0; e < 4; e++) due("EDGE " + e + " of a new SQUARE", NONE, land(9).across(e));
    due("RIMS of a new SQUARE", 1, land(9).land(4));
  }

  private static void cost() {
    says(3, "COST of a SQUARE becomes v: what it was.");
    TurnedLand x = land(5, 7, 1, 1, 1, 1, 1, 99);
    due("v 1", 5, x.cost(0, 1));
    due("v 99", 1, x.cost(0, 99));
    due("what was 99", 99, x.cost(0, 99));
    due("the last SQUARE", 99, x.cost(7, 2));
    due("the SQUARE between", 7, x.cost(1, 7));
    says(3, "BEYOND.");
    refusedEverywhere("SQUARE -1", BEYOND, y -> y.cost(-1, 5));
    refusedEverywhere("SQUARE 8", BEYOND, y -> y.cost(8, 5));
    due("SQUARE 4 of five", 2, Bounds::some, y -> y.cost(4, 5));
    refused("SQUARE 5 of five", BEYOND, Bounds::some, y -> y.cost(5, 5));
    refused("SQUARE 0 of none", BEYOND, Bounds::nothing, y -> y.cost(0, 5));
    for (int v : new int[] {0, 100, -1, MIN, MAX}) refused("v " + v, BEYOND, Bounds::some, y -> y.cost(0, v));
    for (int s : new int[] {MIN, MAX}) refused("SQUARE " + s, BEYOND, Bounds::some, y -> y.cost(s, 5));
    due("COST behind a refused one", 5, Bounds::some, y -> y.cost(0, 100) == BEYOND ? y.cost(0, 9) : 0);
  }

  private static void join() {
    says(4, "A JOIN of two EDGES: its number.");
    TurnedLand x = land(1, 1, 1, 1, 1, 1, 1, 1);
    due("EDGES 0 and 31, the first and the last", 0, x.join(0, 31, 0));
    due("two EDGES of one SQUARE", 1, x.join(4, 5, 1));
    due("the greater EDGE first", 2, x.join(30, 1, 1));
    due("EDGES of SQUARES side by side", 3, x.join(7, 8, 0));
    due("turned 0", 0, x.joinIs(0, 2));
    due("turned 1", 1, x.joinIs(1, 2));
    due("across the first", 31, x.across(0));
    due("across the last", 0, x.across(31));
  }

  private static void joinRefused() {
    says(4, "BEYOND: no such EDGES, one and the same; turned 0, 1.");
    refusedEverywhere("one -1", BEYOND, x -> x.join(-1, 1, 0));
    refusedEverywhere("other -1", BEYOND, x -> x.join(1, -1, 0));
    refusedEverywhere("one 32", BEYOND, x -> x.join(32, 1, 0));
    refusedEverywhere("other 32", BEYOND, x -> x.join(1, 32, 0));
    for (int e : new int[] {MIN, MAX}) refused("one " + e, BEYOND, Bounds::some, x -> x.join(e, 1, 0));
    for (int e : new int[] {MIN, MAX}) refused("other " + e, BEYOND, Bounds::some, x -> x.join(1, e, 0));
    due("EDGE 19, the last of five SQUARES", 4, Bounds::some, x -> x.join(1, 19, 0));
    refused("EDGE 20 of five SQUARES", BEYOND, Bounds::some, x -> x.join(1, 20, 0));
    refused("EDGE 20 of five SQUARES, first", BEYOND, Bounds::some, x -> x.join(20, 1, 0));
    refused("one and the same, not joined", BEYOND, Bounds::some, x -> x.join(1, 1, 0));
    refused("one and the same, joined: BEYOND ahead of STATE", BEYOND, Bounds::some, x -> x.join(0, 0, 0));
    for (int t : new int[] {-1, 2, MIN, MAX}) refused("turned " + t, BEYOND, Bounds::some, x -> x.join(1, 3, t));
    refused("turned 2, one is joined: BEYOND ahead of STATE", BEYOND, Bounds::some, x -> x.join(0, 1, 2));
    refused("no such other, one is joined: BEYOND ahead of STATE", BEYOND, Bounds::some, x -> x.join(0, 20, 0));
    refused("turned 2, all are joined: BEYOND ahead of FULL", BEYOND, Bounds::full, x -> x.join(0, 1, 2));
    says(4, "STATE: one is joined.");
    refused("the first EDGE is joined", STATE, Bounds::some, x -> x.join(0, 1, 0));
    refused("the second EDGE is joined", STATE, Bounds::some, x -> x.join(1, 0, 0));
    refused("the first is the second of a JOIN", STATE, Bounds::some, x -> x.join(6, 1, 0));
    refused("the second is the second of a JOIN", STATE, Bounds::some, x -> x.join(1, 6, 1));
    refused("both are joined to others", STATE, Bounds::some, x -> x.join(0, 4, 0));
    refused("both are joined to one another", STATE, Bounds::some, x -> x.join(0, 6, 0));
    refused("the same JOIN the other way", STATE, Bounds::some, x -> x.join(6, 0, 1));
    refused("the latest JOIN's", STATE, Bounds::some, x -> x.join(12, 1, 0));
    due("none is joined", 4, Bounds::some, x -> x.join(1, 3, 0));
    due("one is joined no more", 3, Bounds::some, x -> x.part() == 3 ? x.join(12, 14, 0) : 0);
  }

  /** Sixteen JOINS take 32 EDGES, and there are no more: whatever is asked of join() then, STATE is ahead of FULL. */
  private static void joinFull() {
    says(4, "FULL.");
    TurnedLand x = land(1, 1, 1, 1, 1, 1, 1, 1);
    for (int i = 0; i < 15; i++) x.join(2 * i, 2 * i + 1, 0);
    due("the sixteenth JOIN", 15, x.join(30, 31, 1));
    due("JOINS", 16, x.count(1));
    for (int one = 0; one < 32; one++) {
      for (int other = 0; other < 32; other++) {
        int want = one == other ? BEYOND : STATE;
        due("a seventeenth JOIN of " + one + ", " + other, want, landOf(Bounds::full).join(one, other, 0));
      }
    }
    refused("a seventeenth JOIN", STATE, Bounds::full, y -> y.join(0, 31, 0));
    refused("a seventeenth JOIN of others", STATE, Bounds::full, y -> y.join(30, 2, 1));
    due("a sixteenth one again", 15, Bounds::full, y -> y.part() == 15 ? y.join(16, 15, 0) : 0);
    due("JOINS behind a refused one", 16, Bounds::full, y -> y.join(0, 1, 0) == STATE ? y.count(1) : 0);
  }

  private static void joinsTerm() {
    term(1, "JOINS 0, 1, .. (at most 16) join two EDGES (each EDGE once at most, two unlike ones), STRAIGHT (0) or TURNED (1).");
    TurnedLand x = landOf(Bounds::full);
    for (int j = 0; j < 16; j++) {
      due("JOIN " + j + ", EDGE 0", j, x.joinIs(j, 0));
      due("JOIN " + j + ", EDGE 1", 31 - j, x.joinIs(j, 1));
      due("JOIN " + j + " TURNED", j % 2, x.joinIs(j, 2));
    }
    due("JOIN 16", BEYOND, x.joinIs(16, 0));
    term(1, "Who stands in a SQUARE has a HAND (0 right, 1 left).",
        "CROSSING an EDGE that is joined: one is in the SQUARE of the other EDGE, HAND the other one if the JOIN is TURNED;"
        + " it takes HOURS (below).");
    for (int turned = 0; turned <= 1; turned++) {
      for (int hand = 0; hand <= 1; hand++) {
        TurnedLand y = land(5, 7);
        y.join(edge(0, EAST), edge(1, NORTH), turned);
        y.person(hand);
        due("HAND " + hand + " by a JOIN of " + turned, 2 + (hand ^ turned), y.cross(0, EAST));
        due("its HOURS", 5, y.personIs(0, 1));
        due("and back", hand, y.cross(0, NORTH));
        due("its HOURS back", 12, y.personIs(0, 1));
      }
    }
    TurnedLand self = land(4);
    self.join(EAST, NORTH, TURNED);
    self.person(1);
    due("from a SQUARE to itself", 0, self.cross(0, NORTH));
    due("its HOURS to itself", 4, self.personIs(0, 1));
  }

  private static void joinIs() {
    says(5, "Of a JOIN: 0, 1 its EDGES, 2 1 if TURNED, else 0.");
    TurnedLand x = land(1, 1);
    x.join(7, 0, TURNED);
    x.join(1, 4, STRAIGHT);
    due("what 0", 7, x.joinIs(0, 0));
    due("what 1", 0, x.joinIs(0, 1));
    due("what 2, TURNED", 1, x.joinIs(0, 2));
    due("what 2, STRAIGHT", 0, x.joinIs(1, 2));
    due("what 0 of the last", 1, x.joinIs(1, 0));
    says(5, "BEYOND.");
    refusedEverywhere("JOIN -1", BEYOND, y -> y.joinIs(-1, 0));
    refusedEverywhere("JOIN 16", BEYOND, y -> y.joinIs(16, 0));
    due("JOIN 3 of four", 12, Bounds::some, y -> y.joinIs(3, 0));
    refused("JOIN 4 of four", BEYOND, Bounds::some, y -> y.joinIs(4, 0));
    refused("JOIN 0 of none", BEYOND, Bounds::nothing, y -> y.joinIs(0, 0));
    for (int what : new int[] {-1, 3, MIN, MAX}) refused("what " + what, BEYOND, Bounds::some, y -> y.joinIs(0, what));
    for (int j : new int[] {MIN, MAX}) refused("JOIN " + j, BEYOND, Bounds::some, y -> y.joinIs(j, 0));
  }

  private static void turn() {
    says(6, "A JOIN is STRAIGHT (0), TURNED (1): what it was.");
    due("STRAIGHT to STRAIGHT", 0, Bounds::some, x -> x.turn(0, 0));
    due("STRAIGHT to TURNED", 0, Bounds::some, x -> x.turn(0, 1));
    due("TURNED to STRAIGHT", 1, Bounds::some, x -> x.turn(1, 0));
    due("TURNED to TURNED", 1, Bounds::some, x -> x.turn(1, 1));
    due("TURNED then", 1, Bounds::some, x -> x.turn(0, 1) == 0 ? x.joinIs(0, 2) : -1);
    due("STRAIGHT then", 0, Bounds::some, x -> x.turn(1, 0) == 1 ? x.joinIs(1, 2) : -1);
    due("the last one of sixteen", 1, Bounds::full, x -> x.turn(15, 0));
    due("in DOUBT still", 5, Bounds::some, x -> x.turn(0, 1) == 0 ? x.count(10) : -1);
    says(6, "BEYOND.");
    refusedEverywhere("JOIN -1", BEYOND, x -> x.turn(-1, 0));
    refusedEverywhere("JOIN 16", BEYOND, x -> x.turn(16, 0));
    refused("JOIN 4 of four", BEYOND, Bounds::some, x -> x.turn(4, 1));
    refused("JOIN 0 of none", BEYOND, Bounds::nothing, x -> x.turn(0, 1));
    for (int v : new int[] {-1, 2, MIN, MAX}) refused("v " + v, BEYOND, Bounds::some, x -> x.turn(0, v));
    for (int j : new int[] {MIN, MAX}) refused("JOIN " + j, BEYOND, Bounds::some, x -> x.turn(j, 1));
  }

  private static void part() {
    says(7, "The latest JOIN is taken off (its EDGES are RIM; it is in DOUBT no more): how many are left.");
    TurnedLand x = landOf(Bounds::full);
    for (int left = 15; left >= 0; left--) {
      due("of " + (left + 1), left, x.part());
      due("its first EDGE", NONE, x.across(left));
      due("its second EDGE", NONE, x.across(31 - left));
      due("JOINS", left, x.count(1));
      due("in DOUBT", 0xFC00 & ((1 << left) - 1), x.count(10));
      if (left > 0) due("the JOIN ahead stays", 32 - left, x.across(left - 1));
    }
    due("RIMS without JOINS", 8, x.land(4));
    due("what isn't in DOUBT any more comes back as known", 0, Bounds::full,
        y -> y.part() + y.join(15, 16, STRAIGHT) == 30 ? y.known(15) : -1);
    due("the same EDGES joined another way", 15, Bounds::full, y -> y.part() == 15 ? y.join(16, 15, 0) : -1);
    says(7, "STATE: there is none.");
    refused("none yet", STATE, Bounds::nothing, y -> y.part());
    refused("SQUARES, but no JOIN", STATE, y -> y.square(1), y -> y.part());
    due("the only one", 0, land(1).join(0, 1, 0));
    refused("none any more", STATE, Bounds::parted, y -> y.part());
    refused("none any more, where there is some of all", STATE, Bounds::someParted, y -> y.part());
  }

  private static void across() {
    says(8, "The EDGE to which one is joined.");
    due("the first EDGE", 31, Bounds::full, x -> x.across(0));
    due("the last EDGE", 0, Bounds::full, x -> x.across(31));
    due("both in one SQUARE", 14, Bounds::some, x -> x.across(12));
    says(8, "BEYOND.");
    refusedEverywhere("EDGE -1", BEYOND, x -> x.across(-1));
    refusedEverywhere("EDGE 32", BEYOND, x -> x.across(32));
    refused("EDGE 20 of five SQUARES", BEYOND, Bounds::some, x -> x.across(20));
    for (int e : new int[] {MIN, MAX}) refused("EDGE " + e, BEYOND, Bounds::some, x -> x.across(e));
    says(8, "NONE: it is RIM.");
    refused("EDGE 19, the last of five SQUARES", NONE, Bounds::some, x -> x.across(19));
    refused("an EDGE between joined ones", NONE, Bounds::some, x -> x.across(1));
    refused("EDGE 0 without JOINS", NONE, x -> x.square(1), x -> x.across(0));
  }

  private static void landWhat() {
    says(9, "THE LAND (what 0 .. 5).");
    due("what 0, the first", 4, land(1).land(0));
    due("what 5, the last", 1, Bounds::some, x -> x.land(5));
    says(9, "BEYOND.");
    refusedEverywhere("what -1", BEYOND, x -> x.land(-1));
    refusedEverywhere("what 6", BEYOND, x -> x.land(6));
    for (int what : new int[] {MIN, MAX}) refused("what " + what, BEYOND, Bounds::some, x -> x.land(what));
  }

  private static void dueLand(String about, TurnedLand x, int... want) {
    for (int what = 0; what <= 5; what++) due(about + ", land(" + what + ")", want[what], x.land(what));
  }

  private static void corners() {
    term(3, "CORNERS of a SQUARE: CORNER i between EDGES i - 1 (or 3) and i; EDGE i goes from CORNER i to CORNER i + 1 (or 0).",
        "A STRAIGHT JOIN makes one of the first CORNER of the one EDGE and the second of the other, and of the second and"
        + " the first; a TURNED one of both first ones, and of both second ones.");
    int[][] cornersStraight = {{0, 3, 2, 3}, {3, 0, 3, 2}, {2, 3, 0, 3}, {3, 2, 3, 0}};
    for (int one = 0; one < 4; one++) {
      for (int other = 0; other < 4; other++) {
        if (one == other) continue;
        TurnedLand x = land(1);
        x.join(one, other, STRAIGHT);
        due("STRAIGHT, EDGES " + one + ", " + other, cornersStraight[one][other], x.land(0));
        x.turn(0, TURNED);
        due("TURNED, EDGES " + one + ", " + other, 2, x.land(0));
        TurnedLand y = land(1, 1, 1);
        y.join(4 + one, 8 + other, STRAIGHT);
        due("STRAIGHT, of two SQUARES", 10, y.land(0));
        y.turn(0, TURNED);
        due("TURNED, of two SQUARES", 10, y.land(0));
        due("one ring of two SQUARES", 2, y.land(4));
      }
    }
  }

  /** EDGE 3 goes to CORNER 0 of its own SQUARE, not to the first of the next one. */
  private static void cornersOfOneSquare() {
    TurnedLand x = land(1, 1, 1);
    x.join(edge(0, SOUTH), edge(1, EAST), STRAIGHT);
    x.join(edge(1, SOUTH), edge(2, EAST), STRAIGHT);
    x.join(edge(2, SOUTH), edge(0, EAST), STRAIGHT);
    dueLand("three SQUARES about one CORNER", x, 7, 9, 1, 1, 1, 0);
    x.turn(2, TURNED);
    dueLand("the same, one TURNED", x, 6, 9, 0, 1, 1, 1);
  }

  private static TurnedLand torus() {
    TurnedLand x = land(1, 1, 1, 1, 1, 1, 1, 1);
    for (int s = 0; s < 8; s++) {
      x.join(edge(s, EAST), edge(s / 4 * 4 + (s + 1) % 4, WEST), STRAIGHT);
      x.join(edge(s, NORTH), edge((s + 4) % 8, SOUTH), STRAIGHT);
    }
    return x;
  }

  private static void landNumbers() {
    term(3, "THE LAND: 0 its CORNERS (as they are one), 1 its EDGES (those joined once), 2 CORNERS less EDGES, and SQUARES more,"
        + " 3 its PARTS (of SQUARES that hang together by JOINS), 4 its RIMS: how many rings EDGES that aren't joined make by"
        + " common CORNERS (those that hang together by CORNERS are one), 5 1 if somebody can come home with the other HAND,"
        + " else 0.");
    dueLand("no SQUARES", new TurnedLand(), 0, 0, 0, 0, 0, 0);
    dueLand("one SQUARE", land(1), 4, 4, 1, 1, 1, 0);
    dueLand("eight SQUARES, no JOIN", land(1, 1, 1, 1, 1, 1, 1, 1), 32, 32, 8, 8, 8, 0);
    dueLand("eight SQUARES, all joined", torus(), 8, 16, 0, 1, 0, 0);
    TurnedLand x = torus();
    x.turn(15, TURNED);
    due("all joined, the last TURNED: somebody comes home turned", 1, x.land(5));
    x.turn(15, STRAIGHT);
    x.part();
    dueLand("all but one joined", x, 8, 17, -1, 1, 1, 0);
    TurnedLand row = land(1, 1, 1, 1, 1, 1, 1, 1);
    for (int s = 0; s < 7; s++) row.join(edge(s, EAST), edge(s + 1, WEST), s % 2);
    dueLand("a row of eight", row, 18, 25, 1, 1, 1, 0);
    row.join(edge(7, EAST), edge(0, WEST), STRAIGHT);
    dueLand("a ring of eight, three TURNED", row, 16, 24, 0, 1, 1, 1);
    row.turn(7, TURNED);
    dueLand("a ring of eight, four TURNED", row, 16, 24, 0, 1, 2, 0);
  }

  private static void partsAndRims() {
    TurnedLand x = land(1, 1, 1, 1, 1, 1, 1, 1);
    for (int s = 0; s < 8; s += 2) {
      due("PARTS ahead of JOIN " + s / 2, 8 - s / 2, x.land(3));
      x.join(edge(s, EAST), edge(s + 1, EAST), s / 2 % 2);
    }
    due("PARTS two by two", 4, x.land(3));
    x.join(edge(7, NORTH), edge(0, NORTH), STRAIGHT);
    due("the last and the first hang together", 3, x.land(3));
    x.join(edge(7, SOUTH), edge(0, SOUTH), STRAIGHT);
    due("joined twice, they hang together once", 3, x.land(3));
    TurnedLand pipe = land(1);
    pipe.join(EAST, WEST, STRAIGHT);
    due("a pipe has two RIMS", 2, pipe.land(4));
    pipe.turn(0, TURNED);
    due("turned it has one", 1, pipe.land(4));
    pipe.join(NORTH, SOUTH, STRAIGHT);
    due("joined all, none", 0, pipe.land(4));
    for (int side = 0; side < 2; side++) {
      TurnedLand one = land(1);
      one.join(1 - side, 3 - side, STRAIGHT);
      due("EDGES " + side + " and " + (side + 2) + " alone are RIM: two rings", 2, one.land(4));
      one.turn(0, TURNED);
      due("EDGES " + side + " and " + (side + 2) + " alone are RIM, turned: one ring", 1, one.land(4));
    }
    TurnedLand touch = land(1, 1);
    touch.join(edge(0, EAST), edge(1, WEST), STRAIGHT);
    touch.join(edge(0, WEST), edge(1, EAST), STRAIGHT);
    due("a ring of two SQUARES has two RIMS", 2, touch.land(4));
    touch.join(edge(0, NORTH), edge(1, SOUTH), STRAIGHT);
    due("RIMS that hang together by a CORNER are one", 1, touch.land(4));
  }

  /** Rings of the last SQUARE alone; and answers that don't hang on what was asked ahead. */
  private static void lastRims() {
    for (int one = 0; one < 4; one++) {
      TurnedLand x = land(1, 1, 1, 1, 1, 1, 1, 1);
      x.join(edge(7, one), edge(7, (one + 2) % 4), STRAIGHT);
      due("two rings of the last SQUARE, EDGE " + one + " first", 9, x.land(4));
      x.turn(0, TURNED);
      due("one ring of the last SQUARE, EDGE " + one + " first", 8, x.land(4));
    }
    Acts[] lands = {Bounds::full, Bounds::some, x -> {
      for (int s = 0; s < 8; s++) x.square(1);
      for (int s = 7; s > 0; s--) x.join(edge(s, EAST), edge(s - 1, WEST), s % 2);
      x.join(edge(0, NORTH), edge(7, SOUTH), TURNED);
    }};
    for (Acts acts : lands) {
      for (int what = 0; what <= 5; what++) {
        int fresh = landOf(acts).land(what);
        for (int ahead = 0; ahead <= 5; ahead++) {
          TurnedLand x = landOf(acts);
          x.land(ahead);
          due("land(" + what + ") behind land(" + ahead + ")", fresh, x.land(what));
          int plain = landOf(acts).plain();
          due("plain() behind them", plain, x.plain());
        }
      }
    }
  }

  private static void comesHome() {
    due("a SQUARE alone", 0, land(1).land(5));
    TurnedLand x = land(1, 1);
    x.join(edge(0, EAST), edge(1, WEST), TURNED);
    due("by one TURNED JOIN and back", 0, x.land(5));
    x.join(edge(0, NORTH), edge(1, SOUTH), TURNED);
    due("by two TURNED JOINS", 0, x.land(5));
    x.join(edge(0, WEST), edge(1, EAST), STRAIGHT);
    due("by a TURNED and a STRAIGHT one", 1, x.land(5));
    x.turn(2, TURNED);
    due("by three TURNED ones", 0, x.land(5));
    TurnedLand far = land(1, 1, 1, 1, 1, 1, 1, 1);
    far.join(edge(7, EAST), edge(7, WEST), TURNED);
    due("in the last SQUARE alone", 1, far.land(5));
    far.turn(0, STRAIGHT);
    due("nowhere", 0, far.land(5));
  }

  /** Whether an odd number of JOINS in a ring is TURNED, whichever way and in whichever order they came. */
  private static void ringsInAnyOrder() {
    term(3, "5 1 if somebody can come home with the other HAND, else 0.");
    int[][] orders = {{0, 1, 2, 3}, {3, 2, 1, 0}, {0, 2, 1, 3}, {1, 3, 0, 2}, {2, 0, 3, 1}, {3, 1, 2, 0}};
    for (int[] order : orders) {
      for (int ways = 0; ways < 16; ways++) {
        for (int turned = 0; turned < 16; turned++) {
          TurnedLand x = land(1, 1, 1, 1);
          for (int j : order) {
            int east = edge(j, EAST);
            int west = edge((j + 1) % 4, WEST);
            boolean back = (ways >> j & 1) == 1;
            x.join(back ? west : east, back ? east : west, turned >> j & 1);
          }
          String about = "a ring, JOINS as bits " + turned + " TURNED, " + ways + " the other way, first " + order[0];
          due(about, Integer.bitCount(turned) % 2, x.land(5));
          due(about + ", PLAIN", Integer.bitCount(turned) % 2, x.plain());
        }
      }
    }
  }

  private static void plain() {
    says(10, "PLAIN.");
    term(3, "PLAIN: the least number (0, 1, 2) of JOINS that, left out, make nobody come home with the other HAND.");
    due("no SQUARES", 0, new TurnedLand().plain());
    due("no JOINS", 0, land(1).plain());
    TurnedLand x = land(1, 1, 1);
    x.join(edge(0, EAST), edge(0, WEST), STRAIGHT);
    due("a STRAIGHT one", 0, x.plain());
    x.turn(0, TURNED);
    due("a TURNED one", 1, x.plain());
    x.join(edge(1, EAST), edge(1, WEST), TURNED);
    due("two TURNED ones, the last number told", 2, x.plain());
    x.join(edge(2, EAST), edge(2, WEST), STRAIGHT);
    due("two TURNED ones and a STRAIGHT one", 2, x.plain());
    due("all JOINS are still there", 3, x.count(1));
    TurnedLand one = land(1, 1);
    one.join(edge(0, EAST), edge(1, WEST), STRAIGHT);
    one.join(edge(0, NORTH), edge(1, SOUTH), TURNED);
    one.join(edge(0, WEST), edge(1, EAST), TURNED);
    one.join(edge(0, SOUTH), edge(1, NORTH), TURNED);
    due("the one STRAIGHT JOIN among TURNED ones, left out, does", 1, one.plain());
    says(10, "NONE: two don't do.");
    refused("three TURNED ones, the first number too large", NONE, Bounds::threeBands, y -> y.plain());
    refused("a third one where there is some of all", NONE, y -> {
      some(y);
      y.join(edge(4, EAST), edge(4, WEST), TURNED);
    }, y -> y.plain());
    due("one of three STRAIGHT again", 2, Bounds::threeBands, y -> y.turn(1, 0) == 1 ? y.plain() : -1);
    due("one of three taken off", 2, Bounds::threeBands, y -> y.part() == 2 ? y.plain() : -1);
    due("none of three TURNED", 0, Bounds::threeBands,
        y -> y.turn(0, 0) + y.turn(1, 0) + y.turn(2, 0) == 3 ? y.plain() : -1);
  }

  /** Sixteen JOINS of SQUARES to themselves: those that are TURNED have to be left out, the first and the last too. */
  private static void plainOfSixteen() {
    TurnedLand x = land(1, 1, 1, 1, 1, 1, 1, 1);
    for (int i = 0; i < 16; i++) x.join(2 * i, 2 * i + 1, STRAIGHT);
    due("sixteen STRAIGHT ones", 0, x.plain());
    for (int i = 0; i < 16; i++) {
      x.turn(i, TURNED);
      due("JOIN " + i + " alone TURNED", 1, x.plain());
      for (int j = 0; j < i; j++) {
        x.turn(j, TURNED);
        due("JOINS " + j + ", " + i + " TURNED", 2, x.plain());
        x.turn(j, STRAIGHT);
      }
      x.turn(i, STRAIGHT);
    }
    x.turn(0, TURNED);
    x.turn(14, TURNED);
    due("the first and the last but one", 2, x.plain());
    x.turn(15, TURNED);
    due("the last, too", NONE, x.plain());
  }
}
