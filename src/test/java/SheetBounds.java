/** Boundary cases of promises 40 to 43, and of what the Terms say of SHEETS. Numbers show by the JOINS they make. */
final class SheetBounds extends Bounds {
  private SheetBounds() {
  }

  static void all() {
    sheet();
    sheetRefused();
    sheetsTerm();
    put();
    putBits();
    putRefused();
    move();
    moveLaps();
    moveRefused();
    moveOrder();
    joins();
    joinsStop();
    joinsRefused();
  }

  /** How many numbers a SHEET has; -1 if it is missing. */
  private static int size(TurnedLand x, int sheet) {
    if (x.move(sheet, 0, sheet, 0, 0) == NONE) return -1;
    int n = 0;
    while (n < 99 && x.move(sheet, 0, sheet, 0, n + 1) != BEYOND) n++;
    return n;
  }

  private static void sheet() {
    says(40, "A SHEET has n numbers, all 0, of so many bits (8, 16, 32; 0: it is missing, n doesn't matter): 1.");
    for (int s = 0; s < 4; s++) {
      int sheet = s;
      for (int bits = 8; bits <= 32; bits *= 2) {
        for (int n : new int[] {0, 1, 23, 24}) {
          int of = bits;
          due("SHEET " + s + " of " + bits + " bits, n " + n, 1, Bounds::nothing, x -> x.sheet(sheet, of, n));
          due("its size", n, Bounds::nothing, x -> x.sheet(sheet, of, n) == 1 ? size(x, sheet) : -2);
          due("in place of one ahead", n, Bounds::full, x -> x.sheet(sheet, of, n) == 1 ? size(x, sheet) : -2);
        }
      }
      for (int n : new int[] {0, 24, 25, -1, MIN, MAX}) {
        due("SHEET " + s + " of 0 bits, n " + n, 1, Bounds::full, x -> x.sheet(sheet, 0, n));
        due("it is missing", -1, Bounds::full, x -> x.sheet(sheet, 0, n) == 1 ? size(x, sheet) : -2);
        due("missing already", 1, Bounds::nothing, x -> x.sheet(sheet, 0, n));
      }
      due("others stay", 24, Bounds::full, x -> x.sheet(sheet, 0, 0) == 1 ? size(x, (sheet + 1) % 4) : -2);
    }
    for (int bits = 8; bits <= 32; bits *= 2) {
      TurnedLand x = land(1, 1);
      fill(x, 2, bits, 1, 4, 1);
      x.sheet(2, bits, 3);
      due("all 0 again, of " + bits + " bits: EDGES 0 and 0", 0, x.joins(2));
      x.put(2, 1, 4);
      due("all 0 but one: EDGES 0 and 4, STRAIGHT", 1, x.joins(2));
      due("its EDGE", 0, x.across(4));
      due("it is STRAIGHT", 0, x.joinIs(0, 2));
      fill(x, 2, bits, 1, 5, 1);
      x.sheet(2, 0, 3);
      x.sheet(2, bits, 3);
      due("all 0 again behind missing", 0, x.joins(2));
    }
  }

  private static void sheetRefused() {
    says(40, "BEYOND.");
    for (int s : new int[] {-1, 4, MIN, MAX}) refusedEverywhere("SHEET " + s, BEYOND, x -> x.sheet(s, 8, 1));
    for (int bits : new int[] {-1, 1, 7, 9, 15, 17, 24, 31, 33, 64, -8, MIN, MAX}) {
      refused("bits " + bits, BEYOND, Bounds::some, x -> x.sheet(0, bits, 1));
    }
    for (int n : new int[] {25, 26, MAX}) {
      refusedEverywhere("n " + n, BEYOND, x -> x.sheet(0, 8, n));
      refused("n " + n + " of 32 bits", BEYOND, Bounds::some, x -> x.sheet(3, 32, n));
    }
    refused("SHEET 4 of 0 bits", BEYOND, Bounds::some, x -> x.sheet(4, 0, 0));
    refused("SHEET -1 of 0 bits", BEYOND, Bounds::some, x -> x.sheet(-1, 0, 0));
    says(40, "STATE: n is below 0 (ahead of BEYOND of n).");
    for (int n : new int[] {-1, -25, MIN}) {
      refusedEverywhere("n " + n, STATE, x -> x.sheet(1, 8, n));
      refused("n " + n + " of 16 bits", STATE, Bounds::some, x -> x.sheet(3, 16, n));
      refused("n " + n + " of 32 bits", STATE, Bounds::some, x -> x.sheet(0, 32, n));
      refused("n " + n + ", SHEET 4: BEYOND ahead of STATE", BEYOND, Bounds::some, x -> x.sheet(4, 8, n));
      refused("n " + n + ", bits 7: BEYOND ahead of STATE", BEYOND, Bounds::some, x -> x.sheet(0, 7, n));
    }
    due("n 0 isn't below 0", 1, Bounds::some, x -> x.sheet(1, 8, 0));
  }

  private static void sheetsTerm() {
    term(5, "SHEETS 0 .. 3 are rows of 8, 16, 32 bits, at most 24 numbers, or missing (as at first).");
    for (int s = 0; s < 4; s++) {
      int sheet = s;
      due("SHEET " + s + " at first", -1, Bounds::nothing, x -> size(x, sheet));
      due("SHEET " + s + " of 24 numbers", 24, Bounds::full, x -> size(x, sheet));
      due("put() to it at first", NONE, Bounds::nothing, x -> x.put(sheet, 0, 0));
      due("joins() of it at first", NONE, Bounds::nothing, x -> x.joins(sheet));
    }
  }

  private static void put() {
    says(41, "Number i of a SHEET becomes v (its lowest bits): 1.");
    for (int s = 0; s < 4; s++) {
      int sheet = s;
      due("the first number", 1, Bounds::full, x -> x.put(sheet, 0, 7));
      due("the last of 24", 1, Bounds::full, x -> x.put(sheet, 23, 7));
      due("any number", 1, Bounds::full, x -> x.put(sheet, 5, MIN));
    }
    due("the only number", 1, x -> x.sheet(3, 32, 1), x -> x.put(3, 0, MAX));
    TurnedLand x = land(1, 1, 1, 1, 1, 1, 1, 1);
    x.sheet(0, 8, 24);
    for (int i = 0; i < 24; i++) x.put(0, i, i % 3 == 2 ? 1 : i);
    due("all 24 numbers", 8, x.joins(0));
    for (int j = 0; j < 8; j++) due("JOIN " + j, 3 * j + 1, x.across(3 * j));
  }

  /** Of so many bits: what stands above the lowest doesn't come. */
  private static void putBits() {
    int[][] kept = {{8, 255, 0}, {8, 256, 1}, {8, -256, 1}, {8, MIN, 1}, {8, 128, 0}, {8, 0xFF00, 1}, {8, 0x7FFFFF00, 1},
        {16, 256, 0}, {16, 65535, 0}, {16, 32768, 0}, {16, 65536, 1}, {16, -65536, 1}, {16, MIN, 1}, {16, 0x7FFF0000, 1},
        {32, 65536, 0}, {32, MIN, 0}, {32, MAX, 0}, {32, 256, 0}, {32, 0, 1}};
    for (int[] k : kept) {
      for (int low = 0; low <= 7; low += 7) {
        TurnedLand x = land(1, 1);
        fill(x, 0, k[0], 5, k[1] | low, 0);
        boolean isWhole = k[2] == 1;
        due("of " + k[0] + " bits, " + (k[1] | low), isWhole ? 1 : 0, x.joins(0));
        due("the EDGE of it", isWhole ? low : NONE, x.across(5));
      }
    }
    int[][] turned = {{8, 257, 1}, {8, 256, 0}, {16, 65537, 1}, {16, -65536, 0}, {16, 257, 2}, {32, 65537, 2}, {32, 1, 1}};
    for (int[] t : turned) {
      TurnedLand x = land(1, 1);
      fill(x, 0, t[0], 5, 0, t[1]);
      due("of " + t[0] + " bits, turned " + t[1], t[2] == 2 ? 0 : 1, x.joins(0));
      if (t[2] != 2) due("of " + t[0] + " bits, turned " + t[1], t[2], x.joinIs(0, 2));
    }
  }

  private static void putRefused() {
    says(41, "BEYOND: no such SHEET.");
    for (int s : new int[] {-1, 4, MIN, MAX}) {
      refusedEverywhere("SHEET " + s, BEYOND, x -> x.put(s, 0, 1));
      refused("SHEET " + s + ", number -1", BEYOND, Bounds::some, x -> x.put(s, -1, 1));
    }
    says(41, "NONE: it is missing.");
    for (int i : new int[] {0, -1, 24, MIN, MAX}) {
      refused("number " + i + ": NONE ahead of BEYOND of it", NONE, Bounds::some, x -> x.put(3, i, 1));
      refused("number " + i + " of a new land", NONE, Bounds::nothing, x -> x.put(0, i, 1));
    }
    refused("missing again", NONE, x -> {
      some(x);
      x.sheet(0, 0, 6);
    }, x -> x.put(0, 0, 1));
    says(41, "BEYOND: no such number.");
    for (int i : new int[] {-1, 6, 24, MIN, MAX}) refused("number " + i + " of six", BEYOND, Bounds::some, x -> x.put(0, i, 1));
    for (int i : new int[] {-1, 24}) refused("number " + i + " of 24", BEYOND, Bounds::full, x -> x.put(3, i, 1));
    refused("number 0 of a SHEET of none", BEYOND, x -> x.sheet(2, 16, 0), x -> x.put(2, 0, 1));
    due("number 5, the last of six", 1, Bounds::some, x -> x.put(0, 5, 1));
  }

  private static void move() {
    says(42, "n numbers of a SHEET, from number i on, come to another one (or the same), from its number j on, as they all were:"
        + " n.");
    int[][] moves = {{0, 0, 0}, {0, 0, 24}, {0, 23, 1}, {23, 0, 1}, {23, 23, 1}, {1, 0, 23}, {0, 1, 23}, {24, 24, 0}, {24, 0, 0},
        {0, 24, 0}, {12, 0, 12}, {0, 12, 12}};
    for (int[] m : moves) {
      String about = m[2] + " numbers from " + m[0] + " to " + m[1] + " of 24";
      due(about, m[2], Bounds::full, x -> x.move(2, m[0], 3, m[1], m[2]));
      due(about + ", the same SHEET", m[2], Bounds::full, x -> x.move(0, m[0], 0, m[1], m[2]));
    }
    due("0 numbers between SHEETS of none", 0, x -> {
      x.sheet(0, 8, 0);
      x.sheet(1, 8, 0);
    }, x -> x.move(0, 0, 1, 0, 0));
    TurnedLand x = land(1, 1, 1, 1);
    fill(x, 0, 16, 9, 1, 4, 1, 9);
    x.sheet(3, 16, 3);
    due("three from the midst", 3, x.move(0, 1, 3, 0, 3));
    due("they came", 1, x.joins(3));
    due("the EDGE", 4, x.across(1));
    due("TURNED", 1, x.joinIs(0, 2));
    x.part();
    x.put(3, 0, 2);
    due("the other SHEET stays as it was", 3, x.move(0, 1, 3, 0, 3));
    due("so they come again", 1, x.joins(3));
    due("the EDGE again", 4, x.across(1));
    x.part();
    due("no numbers come of none", 0, x.move(0, 0, 3, 0, 0));
    due("what stood there stays", 1, x.joins(3));
    x.part();
    due("one number alone comes", 1, x.move(0, 0, 3, 1, 1));
    due("it has come", 1, x.joins(3));
    due("between others that stay", 9, x.across(1));
  }

  /** As they all were: those that come to where others still go from. */
  private static void moveLaps() {
    for (int by = 1; by <= 2; by++) {
      TurnedLand up = land(1, 1, 1, 1);
      fill(up, 1, 32, 1, 4, 1, 9, 9, 9);
      due("up by " + by, 4, up.move(1, 0, 1, by, 4));
      due("and down by " + by, 4, up.move(1, by, 1, 0, 4));
      due("they are as they were", 1, up.joins(1));
      due("JOIN of these, up by " + by, 4, up.across(1));
      due("TURNED, up by " + by, 1, up.joinIs(0, 2));
      TurnedLand down = land(1, 1, 1, 1);
      int[] row = {99, 99, 99, 99, 99, 99};
      row[by] = 1;
      row[by + 1] = 4;
      row[by + 2] = 1;
      fill(down, 1, 32, row);
      due("down by " + by, 4, down.move(1, by, 1, 0, 4));
      due("they came down", 1, down.joins(1));
      due("JOIN of these, down by " + by, 4, down.across(1));
    }
    TurnedLand all = land(1, 1, 1, 1, 1, 1, 1, 1);
    all.sheet(0, 8, 24);
    for (int i = 0; i < 23; i++) all.put(0, i + 1, i % 3 == 2 ? 1 : i);
    due("23 of 24 down by one", 23, all.move(0, 1, 0, 0, 23));
    all.put(0, 23, 1);
    due("all came down", 8, all.joins(0));
    for (int j = 0; j < 8; j++) due("JOIN " + j + " of them", 3 * j + 1, all.across(3 * j));
    TurnedLand same = land(1, 1);
    fill(same, 0, 8, 1, 4, 1);
    due("all to where they are", 3, same.move(0, 0, 0, 0, 3));
    due("they stay", 1, same.joins(0));
  }

  /** SHEETS 0 of 6 and 1 of 3 numbers of 8 bits, 2 of 3 of 16 bits; 3 is missing. */
  private static void three(TurnedLand x) {
    some(x);
    fill(x, 1, 8, 9, 13, 0);
    fill(x, 2, 16, 11, 15, 1);
  }

  private static void moveRefused() {
    says(42, "BEYOND: no such SHEET.");
    for (int s : new int[] {-1, 4, MIN, MAX}) {
      refusedEverywhere("SHEET " + s, BEYOND, x -> x.move(s, 0, 0, 0, 0));
      refusedEverywhere("other " + s, BEYOND, x -> x.move(0, 0, s, 0, 0));
    }
    says(42, "NONE: one is missing.");
    refused("the first", NONE, SheetBounds::three, x -> x.move(3, 0, 0, 0, 0));
    refused("the second", NONE, SheetBounds::three, x -> x.move(0, 0, 3, 0, 0));
    refused("both, one and the same", NONE, SheetBounds::three, x -> x.move(3, 0, 3, 0, 0));
    refused("both of a new land", NONE, Bounds::nothing, x -> x.move(0, 0, 1, 0, 0));
    says(42, "KIND: they are of unlike bits.");
    refused("8 to 16", KIND, SheetBounds::three, x -> x.move(0, 0, 2, 0, 1));
    refused("16 to 8", KIND, SheetBounds::three, x -> x.move(2, 0, 0, 0, 1));
    refused("no numbers", KIND, SheetBounds::three, x -> x.move(2, 0, 1, 0, 0));
    refused("16 to 32", KIND, Bounds::full, x -> x.move(1, 0, 3, 0, 24));
    due("32 to 32", 24, Bounds::full, x -> x.move(2, 0, 3, 0, 24));
    says(42, "BEYOND: n, i, or j is below 0, or they don't stand there.");
    int[][] wrong = {
      {0, 0, -1}, {0, 0, MIN}, {-1, 0, 1}, {MIN, 0, 1}, {0, -1, 1}, {0, MIN, 1}, {-1, 0, 0}, {0, -1, 0}, {0, 0, 4}, {4, 0, 3},
      {6, 0, 1}, {0, 1, 3}, {0, 3, 1}, {0, 0, 7}, {0, 0, MAX}, {MAX, 0, 1}, {0, MAX, 1}, {MAX, MAX, MAX}, {7, 0, 0}, {0, 4, 0},
      {MAX, 0, 0}, {0, MAX, 0}, {-1, -1, -1}, {MIN, MIN, MIN}, {1, 1, MAX}, {2, 2, MAX - 1}
    };
    for (int[] w : wrong) {
      refused(w[2] + " from " + w[0] + " of six to " + w[1] + " of three", BEYOND, SheetBounds::three,
          x -> x.move(0, w[0], 1, w[1], w[2]));
    }
    for (int[] w : new int[][] {{0, 0, 25}, {1, 0, 24}, {0, 1, 24}, {24, 0, 1}, {0, 24, 1}, {25, 0, 0}, {0, 25, 0}}) {
      refused(w[2] + " from " + w[0] + " of 24 to " + w[1] + " of 24", BEYOND, Bounds::full,
          x -> x.move(2, w[0], 3, w[1], w[2]));
    }
    due("the most of six to three", 3, SheetBounds::three, x -> x.move(0, 3, 1, 0, 3));
    due("the last of six to the last of three", 1, SheetBounds::three, x -> x.move(0, 5, 1, 2, 1));
  }

  private static void moveOrder() {
    says(42, "BEYOND: no such SHEET.", "NONE: one is missing.", "KIND: they are of unlike bits.");
    refused("no such SHEET, the other missing", BEYOND, SheetBounds::three, x -> x.move(4, 0, 3, 0, -1));
    refused("missing, no such other", BEYOND, SheetBounds::three, x -> x.move(3, 0, 4, 0, -1));
    refused("missing, n below 0", NONE, SheetBounds::three, x -> x.move(3, -1, 0, -1, -1));
    refused("the other missing, they don't stand there", NONE, SheetBounds::three, x -> x.move(2, 9, 3, 9, 9));
    refused("unlike bits, n below 0", KIND, SheetBounds::three, x -> x.move(0, 0, 2, 0, -1));
    refused("unlike bits, i below 0", KIND, SheetBounds::three, x -> x.move(0, -1, 2, 0, 1));
    refused("unlike bits, j below 0", KIND, SheetBounds::three, x -> x.move(2, 0, 0, -1, 1));
    refused("unlike bits, they don't stand there", KIND, SheetBounds::three, x -> x.move(2, 3, 0, 6, 99));
  }

  private static void joins() {
    says(43, "Numbers of a SHEET, three by three, are JOINS as in join(): how many came, up to the first that join() would refuse,"
        + " or that isn't whole (no ERROR then).");
    for (int n = 0; n <= 24; n++) {
      TurnedLand x = land(1, 1, 1, 1, 1, 1, 1, 1);
      x.sheet(3, 8, n);
      for (int i = 0; i < n; i++) x.put(3, i, i % 3 == 2 ? i / 3 % 2 : i);
      due(n + " numbers", n / 3, x.joins(3));
      due("JOINS of them", n / 3, x.count(1));
      for (int j = 0; j < n / 3; j++) {
        due("JOIN " + j + ", its first EDGE", 3 * j, x.joinIs(j, 0));
        due("JOIN " + j + ", its second EDGE", 3 * j + 1, x.joinIs(j, 1));
        due("JOIN " + j + ", TURNED", j % 2, x.joinIs(j, 2));
      }
      for (int k = 1; k <= 6; k++) due("told(" + k + ")", 0, x.told(k));
    }
    TurnedLand x = land(1, 1, 1, 1, 1, 1, 1, 1);
    for (int j = 0; j < 15; j++) x.join(2 * j, 2 * j + 1, 0);
    fill(x, 0, 32, 31, 30, 1, 0, 1, 0);
    due("the sixteenth JOIN, no seventeenth", 1, x.joins(0));
    due("JOINS", 16, x.count(1));
    due("joined all, none comes", 0, x.joins(0));
    due("told(3)", 0, x.told(3));
    due("told(4)", 0, x.told(4));
    TurnedLand behind = land(1, 1);
    behind.join(0, 1, 0);
    fill(behind, 0, 8, 4, 5, 1);
    due("behind another JOIN", 1, behind.joins(0));
    due("its EDGE", 4, behind.joinIs(1, 0));
  }

  private static void joinsStop() {
    says(43, "Numbers of a SHEET, three by three, are JOINS as in join(): how many came, up to the first that join() would refuse,"
        + " or that isn't whole (no ERROR then).");
    int[][] wrong = {{8, 9, 2}, {8, 8, 0}, {12, 9, 0}, {8, 12, 0}, {-1, 9, 0}, {8, -1, 0}, {8, 9, -1}, {0, 9, 0}, {8, 4, 0},
        {MIN, 9, 0}, {8, MAX, 0}, {8, 9, MIN}};
    for (int[] w : wrong) {
      for (int at = 0; at <= 2; at++) {
        int[] row = {0, 4, 1, 1, 5, 0, 2, 6, 1};
        System.arraycopy(w, 0, row, 3 * at, 3);
        boolean comes = at == 0 && (w[0] == 0 || w[1] == 4);
        TurnedLand x = land(1, 1, 1);
        if (comes) x.join(0, 4, 0);
        fill(x, 1, 32, row);
        int ahead = x.count(1);
        due("JOIN " + at + " of " + w[0] + ", " + w[1] + ", " + w[2], at, x.joins(1));
        due("JOINS then", ahead + at, x.count(1));
        due("none behind it", NONE, x.across(at == 2 ? 3 : 2));
        for (int k = 1; k <= 6; k++) due("told(" + k + ")", k == 2 ? 1 : 0, x.told(k));
      }
    }
    TurnedLand again = land(1, 1);
    fill(again, 0, 16, 0, 4, 0, 4, 0, 1);
    due("the same EDGES twice in a SHEET", 1, again.joins(0));
    due("the second time none", 0, again.joins(0));
    due("joins() of none that come answers 0 without SQUARES, too", 0, x -> x.sheet(0, 8, 24), x -> x.joins(0));
  }

  private static void joinsRefused() {
    says(43, "BEYOND.");
    for (int s : new int[] {-1, 4, MIN, MAX}) refusedEverywhere("SHEET " + s, BEYOND, x -> x.joins(s));
    says(43, "NONE.");
    refused("missing", NONE, Bounds::some, x -> x.joins(3));
    refused("missing at first", NONE, Bounds::nothing, x -> x.joins(0));
    refused("missing again", NONE, x -> {
      full(x);
      x.sheet(3, 0, 24);
    }, x -> x.joins(3));
    due("a SHEET of no numbers isn't missing", 0, x -> x.sheet(2, 32, 0), x -> x.joins(2));
  }
}
