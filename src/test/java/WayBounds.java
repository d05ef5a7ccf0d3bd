/** Boundary cases of promises 14 to 16, and of what the Terms say of ways. */
final class WayBounds extends Bounds {
  private WayBounds() {
  }

  static void all() {
    soonest();
    soonestNone();
    soonestTerm();
    reached();
    first();
    firstOfSeveral();
  }

  /** Eight SQUARES in a row; the last is joined to itself by a TURNED JOIN, so that all 16 places hang together. */
  private static void row(TurnedLand x) {
    for (int s = 0; s < 8; s++) x.square(99);
    for (int s = 0; s < 7; s++) x.join(edge(s, EAST), edge(s + 1, WEST), STRAIGHT);
    x.join(edge(7, NORTH), edge(7, SOUTH), TURNED);
  }

  /** A pair of SQUARES that hang together, and one alone. */
  private static void apart(TurnedLand x) {
    for (int s = 0; s < 3; s++) x.square(5);
    x.join(edge(0, EAST), edge(1, WEST), TURNED);
  }

  private static void soonest() {
    says(14, "SOONEST (places told as 2 times the SQUARE and the HAND).");
    due("places 0 and 0, the first", 0, Bounds::full, x -> x.soonest(0, 0));
    due("places 15 and 15, the last", 0, Bounds::full, x -> x.soonest(15, 15));
    due("place 9, the last of five SQUARES", 0, Bounds::some, x -> x.soonest(9, 9));
    due("from the first SQUARE to the last", 7 * 99, WayBounds::row, x -> x.soonest(0, 14));
    due("and back", 7 * 99, WayBounds::row, x -> x.soonest(15, 1));
    due("to the other HAND, the longest way", 15 * 99, WayBounds::row, x -> x.soonest(0, 1));
    due("the longest way, of 999 hours each", 15 * 999, WayBounds::row,
        x -> text(x, 0, "9999") == 1 ? x.soonest(1, 0) : -1);
    says(14, "BEYOND.");
    for (int p : new int[] {-1, 16, MIN, MAX}) {
      refusedEverywhere("from " + p, BEYOND, x -> x.soonest(p, 0));
      refusedEverywhere("to " + p, BEYOND, x -> x.soonest(0, p));
      refused("from and to " + p, BEYOND, Bounds::some, x -> x.soonest(p, p));
    }
    refused("place 10 of five SQUARES, from", BEYOND, Bounds::some, x -> x.soonest(10, 0));
    refused("place 10 of five SQUARES, to", BEYOND, Bounds::some, x -> x.soonest(0, 10));
    refused("to a place beyond that can't be, too: BEYOND", BEYOND, WayBounds::apart, x -> x.soonest(4, 6));
  }

  private static void soonestNone() {
    says(14, "NONE: it can't be.");
    refused("to the other HAND, no JOIN", NONE, x -> x.square(1), x -> x.soonest(0, 1));
    refused("to a SQUARE alone", NONE, WayBounds::apart, x -> x.soonest(0, 4));
    refused("from a SQUARE alone", NONE, WayBounds::apart, x -> x.soonest(5, 3));
    refused("there, with this HAND", NONE, WayBounds::apart, x -> x.soonest(0, 2));
    due("there, with the other one", 5, WayBounds::apart, x -> x.soonest(0, 3));
    refused("from the last place but one to the last", NONE, Bounds::some, x -> x.soonest(8, 9));
    refused("from a ring to a SQUARE alone", NONE, Bounds::some, x -> x.soonest(0, 8));
    due("no more behind turn()", 10, WayBounds::apart, x -> x.join(1, 7, 0) == 1 ? x.soonest(0, 1) : -1);
  }

  private static void soonestTerm() {
    term(3, "SOONEST from a SQUARE with a HAND to another one with a HAND: the least HOURS by any CROSSINGS"
        + " (0 if they are the same already).", "REACHED: whether it can be at all.");
    for (int p = 0; p < 16; p++) {
      int place = p;
      due("place " + p + " to itself", 0, WayBounds::row, x -> x.soonest(place, place));
    }
    due("to itself, without a JOIN", 0, land(7).soonest(1, 1));
    due("to itself, though a JOIN leads there in one hour", 0, x -> {
      x.square(1);
      x.join(0, 1, 0);
    }, x -> x.soonest(0, 0));
    TurnedLand x = land(10, 3, 3, 50);
    x.join(edge(0, EAST), edge(3, EAST), STRAIGHT);
    x.join(edge(0, NORTH), edge(1, SOUTH), STRAIGHT);
    x.join(edge(1, NORTH), edge(2, SOUTH), STRAIGHT);
    x.join(edge(2, NORTH), edge(3, SOUTH), STRAIGHT);
    due("one CROSSING ahead of three", 10, x.soonest(0, 6));
    TurnedLand late = land(1, 50, 1, 1, 1, 7);
    late.join(edge(0, EAST), edge(1, WEST), STRAIGHT);
    late.join(edge(0, WEST), edge(2, EAST), STRAIGHT);
    late.join(edge(1, EAST), edge(3, WEST), STRAIGHT);
    late.join(edge(2, WEST), edge(4, EAST), STRAIGHT);
    late.join(edge(4, WEST), edge(3, EAST), STRAIGHT);
    late.join(edge(3, NORTH), edge(5, SOUTH), STRAIGHT);
    due("the sooner way to a SQUARE has one CROSSING more", 3, late.soonest(0, 6));
    due("and so beyond that SQUARE", 4, late.soonest(0, 10));
    due("and back", 10, late.soonest(11, 1));
    int[][] costs = {{3, 53}, {9, 59}, {10, 60}, {11, 60}, {99, 60}};
    for (int[] c : costs) {
      x.cost(2, c[0]);
      due("the sooner of two ways, the one by a SQUARE of " + c[0], c[1], x.soonest(6, 2));
    }
  }

  private static void reached() {
    says(15, "Places that are REACHED from one, as bits (a place's number).");
    due("place 0, nothing but itself", 1, x -> x.square(1), x -> x.reached(0));
    due("place 1, nothing but itself", 2, x -> x.square(1), x -> x.reached(1));
    due("place 15, nothing but itself", 1 << 15, land(1, 1, 1, 1, 1, 1, 1, 1).reached(15));
    for (int p = 0; p < 16; p++) {
      int place = p;
      due("all sixteen from " + p, 65535, WayBounds::row, x -> x.reached(place));
      due("half of them from " + p, p % 2 == 0 ? 0x5555 : 0xAAAA, WayBounds::row,
          x -> x.part() == 7 ? x.reached(place) : -1);
    }
    due("the other HAND over there", 0b1001, WayBounds::apart, x -> x.reached(0));
    due("and back", 0b1001, WayBounds::apart, x -> x.reached(3));
    due("both HANDS of SQUARE 3, joined to itself", 0b1100_0000, Bounds::some, x -> x.reached(6));
    says(15, "BEYOND.");
    for (int p : new int[] {-1, 16}) refusedEverywhere("place " + p, BEYOND, x -> x.reached(p));
    for (int p : new int[] {MIN, MAX}) refused("place " + p, BEYOND, Bounds::some, x -> x.reached(p));
    refused("place 10 of five SQUARES", BEYOND, Bounds::some, x -> x.reached(10));
    due("place 9 of five SQUARES", 1 << 9, Bounds::some, x -> x.reached(9));
  }

  private static void first() {
    says(16, "The EDGE (0 .. 3) that one crosses first on a SOONEST way from a place to another one; of several the least.");
    for (int side = 0; side < 4; side++) {
      TurnedLand x = land(1, 1, 1);
      x.join(edge(1, side), edge(0, 0), STRAIGHT);
      x.join(edge(0, 2), edge(2, 0), TURNED);
      due("EDGE " + side, side, x.first(2, 0));
      due("EDGE " + side + ", the first of two", side, x.first(3, 4));
    }
    due("to the last place", 0, WayBounds::row, x -> x.first(0, 15));
    due("from the last place", 2, WayBounds::row, x -> x.first(15, 1));
    says(16, "BEYOND.");
    for (int p : new int[] {-1, 16, MIN, MAX}) {
      refusedEverywhere("from " + p, BEYOND, x -> x.first(p, 0));
      refusedEverywhere("to " + p, BEYOND, x -> x.first(0, p));
      refused("one and the same, " + p + ": BEYOND ahead of NONE", BEYOND, Bounds::some, x -> x.first(p, p));
    }
    refused("from 10 of five SQUARES", BEYOND, Bounds::some, x -> x.first(10, 0));
    refused("to 10 of five SQUARES", BEYOND, Bounds::some, x -> x.first(0, 10));
    says(16, "NONE: it can't be, or one is there.");
    refused("the other HAND, no JOIN", NONE, x -> x.square(1), x -> x.first(0, 1));
    refused("a SQUARE alone", NONE, WayBounds::apart, x -> x.first(0, 4));
    refused("with this HAND", NONE, WayBounds::apart, x -> x.first(0, 2));
    refused("from a ring to a SQUARE alone", NONE, Bounds::some, x -> x.first(1, 9));
    refused("one is there, place 0", NONE, Bounds::full, x -> x.first(0, 0));
    refused("one is there, place 15", NONE, Bounds::full, x -> x.first(15, 15));
    refused("one is there, though a JOIN leads there", NONE, Bounds::some, x -> x.first(6, 6));
    due("one can be there with the other HAND", 0, Bounds::some, x -> x.first(6, 7));
  }

  private static void firstOfSeveral() {
    says(16, "The EDGE (0 .. 3) that one crosses first on a SOONEST way from a place to another one; of several the least.");
    for (int least = 0; least < 4; least++) {
      TurnedLand x = land(1, 1);
      for (int side = 3; side >= least; side--) x.join(edge(0, side), edge(1, 3 - side), STRAIGHT);
      due("all EDGES from " + least + " on lead there", least, x.first(0, 2));
      TurnedLand turned = land(1, 1);
      for (int side = 0; side < 4; side++) turned.join(edge(0, side), edge(1, side), side < least ? TURNED : STRAIGHT);
      due("those ahead of " + least + " lead to the other HAND", least, turned.first(0, 2));
    }
    TurnedLand x = land(2, 5, 2, 1);
    x.join(edge(0, SOUTH), edge(2, EAST), STRAIGHT);
    x.join(edge(0, EAST), edge(1, EAST), STRAIGHT);
    x.join(edge(1, WEST), edge(3, EAST), STRAIGHT);
    x.join(edge(2, WEST), edge(3, WEST), STRAIGHT);
    due("the greater EDGE, as that way is sooner", SOUTH, x.first(0, 6));
    x.cost(2, 5);
    due("the least EDGE of ways as soon", EAST, x.first(0, 6));
    x.cost(2, 6);
    due("the least EDGE, sooner", EAST, x.first(0, 6));
    TurnedLand y = land(2, 5, 2, 1);
    y.join(edge(0, SOUTH), edge(1, EAST), STRAIGHT);
    y.join(edge(0, EAST), edge(2, EAST), STRAIGHT);
    y.join(edge(1, WEST), edge(3, EAST), STRAIGHT);
    y.join(edge(2, WEST), edge(3, WEST), STRAIGHT);
    due("the least EDGE, by the greater SQUARE, sooner", EAST, y.first(0, 6));
    y.cost(2, 5);
    due("the least EDGE of ways as soon, by the greater SQUARE", EAST, y.first(0, 6));
    y.cost(2, 6);
    due("the greater EDGE, by the less SQUARE, sooner", SOUTH, y.first(0, 6));
  }
}
