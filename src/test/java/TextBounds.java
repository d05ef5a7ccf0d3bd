/** Boundary cases of promises 11 to 13, and of what the Terms say of TEXTS and their USES. */
final class TextBounds extends Bounds {
  private static final String SIGNS = "|&<=>+-*/%";

  private TextBounds() {
  }

  static void all() {
    feed();
    feedFull();
    text();
    textRefused();
    textFault();
    untell();
    grammar();
    numbers();
    blanks();
    open();
    wholeTape();
    ints();
    truths();
    faults();
    hoursUse();
    priceUse();
  }

  private static void feed() {
    says(11, "The n lowest bytes (1 .. 8) of a word, the lowest first, come to THE TAPE: how many there are.");
    TurnedLand x = new TurnedLand();
    due("n 1, the first not too small", 1, x.feed('1', 1));
    due("n 8, the last not too large", 9, x.feed(0x312B_312B_312B_312BL, 8));
    due("the bytes are a TEXT", 1, x.text(0));
    for (int n = 1; n <= 8; n++) due(n + " bytes of a word", n, new TurnedLand().feed(-1, n));
    for (int n = 1; n <= 8; n++) {
      TurnedLand y = new TurnedLand();
      y.feed(0x2B31_2B31_2B31_2B31L, n);
      due("what the " + n + " lowest are as a TEXT", n % 2 == 1 ? 1 : -10 - n, y.text(0));
    }
    TurnedLand high = new TurnedLand();
    high.feed(0xFF2A_2A2A_2A2A_2A37L, 1);
    due("what is above the lowest byte doesn't come", 1, high.text(0));
    high.feed(0x80L, 1);
    due("a byte of 128 is no sign", -10, high.text(0));
    high.feed(0x1_31L, 1);
    due("the lowest byte alone", 1, high.text(0));
    high.feed(0x8031_3131_3131_3131L, 8);
    due("the highest byte is the last: a fifth digit is ahead of it", -14, high.text(0));
    high.feed(0x302B_3131_312B_3131L, 8);
    due("eight bytes in their order", 1, high.text(0));
    says(11, "BEYOND.");
    for (int n : new int[] {0, 9}) refusedEverywhere("n " + n, BEYOND, y -> y.feed('1', n));
    for (int n : new int[] {-1, MIN, MAX}) refused("n " + n, BEYOND, Bounds::some, y -> y.feed('1', n));
  }

  private static Acts tape(int bytes) {
    return x -> feed(x, "1".repeat(bytes));
  }

  private static void feedFull() {
    says(11, "FULL.");
    for (int n = 1; n <= 8; n++) {
      int taken = n;
      due(n + " bytes to 60 in all", 60, tape(60 - n), x -> x.feed(-1, taken));
      refused(n + " bytes to 61 in all", FULL, tape(61 - n), x -> x.feed(-1, taken));
      refused(n + " bytes to a full tape", FULL, Bounds::full, x -> x.feed(-1, taken));
    }
    refused("8 bytes where one more would do", FULL, tape(59), x -> x.feed(-1, 8));
    due("bytes behind a refused word", 59, tape(59), x -> x.feed(-1, 2) == FULL ? x.count(6) : 0);
    due("one more behind a refused word", 60, tape(59), x -> x.feed(-1, 2) == FULL ? x.feed('1', 1) : 0);
    refused("n 9 to a full tape: BEYOND ahead of FULL", BEYOND, tape(60), x -> x.feed('1', 9));
    refused("n 0 to a full tape: BEYOND ahead of FULL", BEYOND, tape(60), x -> x.feed('1', 0));
    due("a tape that was full is empty behind text()", 8, tape(60), x -> x.text(0) == -14 ? x.feed('1', 8) : 0);
    term(2, "TEXTS are read from THE TAPE (bytes, at most 60): T: A { | A }.");
    due("60 bytes", 60, tape(60), x -> x.count(6));
    due("61 bytes", 60, tape(60), x -> x.feed('1', 1) == FULL ? x.count(6) : 0);
    due("no byte yet", 0, new TurnedLand().count(6));
  }

  private static void text() {
    says(12, "THE TAPE, which is empty then, is the TEXT of a USE (0, 1), in place of one ahead: 1.");
    for (int use = 0; use <= 1; use++) {
      int of = use;
      due("USE " + use, 1, tape(1), x -> x.text(of));
      due("THE TAPE then", 0, tape(1), x -> x.text(of) == 1 ? x.count(6) : -1);
      due("in place of one ahead", 1, x -> text(x, of, "2"), x -> text(x, of, "3"));
    }
    TurnedLand x = land(50);
    x.join(EAST, WEST, TURNED);
    x.thing(0, 8, 0);
    text(x, 0, "20");
    text(x, 1, "30");
    due("the TEXT of USE 0", 20, x.soonest(0, 1));
    due("the TEXT of USE 1", 30, x.thingIs(0, 3));
    text(x, 0, "21");
    due("USE 0 anew", 21, x.soonest(0, 1));
    due("USE 1 as it was", 30, x.thingIs(0, 3));
    text(x, 1, "31");
    due("USE 1 anew", 31, x.thingIs(0, 3));
    due("USE 0 as it was", 21, x.soonest(0, 1));
    text(x, 0, "9+9+9+9+9+9+9+9+9+9+9+9+9+9+9+9+9+9+9+9+9+9+9+9+9+9+9+9+9+99");
    due("a TEXT of 60 bytes", 29 * 9 + 99, x.soonest(0, 1));
    text(x, 0, "7");
    due("of one byte in place of 60", 7, x.soonest(0, 1));
  }

  private static void textRefused() {
    says(12, "BEYOND (THE TAPE stays).");
    for (int use : new int[] {-1, 2}) refusedEverywhere("USE " + use, BEYOND, x -> x.text(use));
    for (int use : new int[] {MIN, MAX}) refused("USE " + use, BEYOND, Bounds::some, x -> x.text(use));
    due("THE TAPE behind it", 60, Bounds::full, x -> x.text(2) == BEYOND ? x.count(6) : -1);
    due("its TEXT behind it", 1, Bounds::full, x -> x.text(-1) == BEYOND ? x.text(0) : -1);
    refused("no byte on THE TAPE: BEYOND, no FAULT", BEYOND, Bounds::nothing, x -> x.text(2));
  }

  private static void textFault() {
    says(12, "-10 less the FAULT (no ERROR; the one ahead stays; THE TAPE is empty, too).");
    for (int use = 0; use <= 1; use++) {
      int of = use;
      due("no byte: FAULT 0", -10, Bounds::nothing, x -> x.text(of));
      due("FAULT 0, the first", -10, new TurnedLand(), use, ")");
      due("FAULT 59, the last byte", -69, new TurnedLand(), use, "1+".repeat(29) + "1(");
      due("FAULT 60, behind the last byte", -70, new TurnedLand(), use, "1+".repeat(30));
      for (int k = 1; k <= 6; k++) {
        int error = k;
        due("told(" + k + ") behind a FAULT", 0, x -> text(x, of, "1+"), x -> x.told(error));
      }
      due("THE TAPE behind a FAULT", 0, x -> text(x, of, "1+"), x -> x.count(6));
      due("a TEXT that stays is there", 1, x -> text(x, of, "5"), x -> text(x, of, "1+") == -12 ? x.untell(of) : -1);
      due("where none was, none is", 0, Bounds::nothing, x -> text(x, of, "1+") == -12 ? x.untell(of) : -1);
    }
    TurnedLand x = land(50);
    x.join(EAST, WEST, TURNED);
    text(x, 0, "c-9");
    due("a FAULT behind much that is right", -13, text(x, 0, "1+1!"));
    due("the TEXT ahead stays", 41, x.soonest(0, 1));
    due("a FAULT of no byte", -10, x.text(0));
    due("the TEXT ahead stays then, too", 41, x.soonest(0, 1));
  }

  private static void due(String about, long want, TurnedLand x, int use, String text) {
    due(about + " of " + text, want, text(x, use, text));
  }

  private static void untell() {
    says(13, "There is no TEXT of a USE any more: 1 if there was, else 0.");
    for (int use = 0; use <= 1; use++) {
      int of = use;
      due("none yet, USE " + use, 0, Bounds::nothing, x -> x.untell(of));
      due("there was one, USE " + use, 1, Bounds::some, x -> x.untell(of));
      due("there is none any more, USE " + use, 0, Bounds::some, x -> x.untell(of) == 1 ? x.untell(of) : -1);
      due("the other one stays, USE " + use, 1, Bounds::some, x -> x.untell(1 - of) == 1 ? x.untell(of) : -1);
      due("THE TAPE stays", 60, Bounds::full, x -> x.untell(of) >= 0 ? x.count(6) : -1);
    }
    TurnedLand x = land(50);
    x.join(EAST, WEST, TURNED);
    x.thing(0, 9, 0);
    text(x, 0, "7");
    text(x, 1, "8");
    x.untell(0);
    due("HOURS without", 50, x.soonest(0, 1));
    due("PRICE with", 8, x.thingIs(0, 4));
    x.untell(1);
    due("PRICE without", 4, x.thingIs(0, 4));
    says(13, "BEYOND.");
    for (int use : new int[] {-1, 2}) refusedEverywhere("USE " + use, BEYOND, y -> y.untell(use));
    for (int use : new int[] {MIN, MAX}) refused("USE " + use, BEYOND, Bounds::some, y -> y.untell(use));
  }

  /** A TEXT's value as an int: told by comparing it with another TEXT, so that its being held doesn't hide it. */
  private static void value(long want, String text) {
    TurnedLand x = land(1);
    x.thing(0, 1, 1);
    due(text + " is a TEXT", 1, text(x, 1, "(" + text + ")=" + spelt((int) want)));
    due(text, 1, x.thingIs(0, 3));
    due(text + " is not one more", 1, text(x, 1, "(" + text + ")=" + spelt((int) want + 1)));
    due(text + " and not one more", 0, x.thingIs(0, 3));
  }

  private static String spelt(int v) {
    if (v >= 0 && v <= 9999) return "" + v;
    if (v < 0 && v >= -9999) return "0-" + -v;
    if (v == MIN) return "1024*2048*1024";
    if (v == MAX) return "1024*2048*1024-1";
    if (v == MIN + 1) return "1024*2048*1024+1";
    int high = v >> 24;
    String sum = (v >> 12 & 4095) + (high < 0 ? "-" + -high : "+" + high) + "*4096";
    return "(" + sum + ")*4096+" + (v & 4095);
  }

  private static void price(long want, String text) {
    TurnedLand x = land(1);
    x.thing(0, 1, 1);
    due(text + " is a TEXT", 1, text(x, 1, text));
    due(text, want, x.thingIs(0, 3));
  }

  private static void fault(int place, String text) {
    for (int use = 0; use <= 1; use++) due("USE " + use, -10 - place, new TurnedLand(), use, text);
  }

  private static void isText(String text) {
    for (int use = 0; use <= 1; use++) due("USE " + use, 1, new TurnedLand(), use, text);
  }

  private static void grammar() {
    term(2, "A: B { & B }.", "B: S, or S < S, S = S, S > S.", "S: P { + P, - P }.", "P: Q { * Q, / Q, % Q }.");
    for (char sign : SIGNS.toCharArray()) {
      isText("1" + sign + "2");
      fault(0, sign + "2");
      fault(2, "1" + sign);
      fault(2, "1" + sign + sign + "2");
      boolean compares = "<=>".indexOf(sign) >= 0;
      if (compares) fault(3, "1" + sign + "2" + sign + "3");
      else isText("1" + sign + "2" + sign + "3");
    }
    for (char one : "<=>".toCharArray()) {
      for (char other : "<=>".toCharArray()) {
        fault(3, "1" + one + "2" + other + "3");
        fault(7, "1+1" + one + "2*2" + other + "3");
        isText("1" + one + "2&3" + other + "4");
        isText("1" + one + "2|3" + other + "4");
        isText("(1" + one + "2)" + other + "3");
        isText("1" + one + "(2" + other + "3)");
        isText("!1" + one + "!2");
      }
    }
    value(7, "1+2*3");
    value(9, "(1+2)*3");
    value(1, "1|0&0");
    value(0, "(1|0)&0");
    value(1, "1<2&3<4");
    value(2, "1+(1<2&3<4)");
    value(1, "1+1<2+1");
    value(0, "2=1+2");
    value(-4, "1-2-3");
    value(24, "2*3*4");
    value(1, "100/10/10");
    value(3, "100%7%4+1");
    value(6, "7%4*2");
    value(0, "!1=1");
    value(1, "!(1=2)");
  }

  private static void numbers() {
    term(2, "Q: a NUMBER of 1 to 4 digits, a NAME, ! Q, ( T ).");
    fault(0, "");
    value(0, "0");
    value(9, "9");
    value(10, "10");
    value(999, "999");
    value(9999, "9999");
    value(0, "0000");
    value(1, "0001");
    fault(4, "10000");
    fault(4, "00000");
    fault(4, "99999");
    fault(5, "(10000)");
    fault(6, "1+10000");
    fault(5, "!12345");
    fault(1, "1!");
    fault(1, "1(1)");
    fault(3, "(1)1");
    fault(3, "(1)(1)");
    fault(3, "(1)!1");
    fault(1, "()");
    fault(0, ")");
    fault(1, "1)");
    fault(3, "(1))");
    fault(1, "(");
    fault(2, "(1");
    fault(1, "!");
    fault(1, "!)");
    for (char name : "cdhj".toCharArray()) {
      due("a NAME of USE 0", 1, new TurnedLand(), 0, "" + name);
      due("no NAME of USE 1", -10, new TurnedLand(), 1, "" + name);
      due("a NAME behind a digit", -11, new TurnedLand(), 0, "1" + name);
      due("a digit behind a NAME", -11, new TurnedLand(), 0, name + "1");
      due("two NAMES", -11, new TurnedLand(), 0, name + "c");
      due("a NAME in ( )", 1, new TurnedLand(), 0, "(" + name + ")");
      due("! a NAME", 1, new TurnedLand(), 0, "!" + name);
    }
    for (char name : "was".toCharArray()) {
      due("a NAME of USE 1", 1, new TurnedLand(), 1, "" + name);
      due("no NAME of USE 0", -10, new TurnedLand(), 0, "" + name);
      due("two NAMES", -11, new TurnedLand(), 1, name + "w");
    }
    for (int b = 0; b < 256; b++) {
      boolean isDigit = b >= '0' && b <= '9';
      boolean opens = b == '!' || b == '(';
      int firstOfHours = isDigit || "cdhj".indexOf(b) >= 0 ? 1 : opens ? -11 : -10;
      int firstOfPrice = isDigit || "was".indexOf(b) >= 0 ? 1 : opens ? -11 : -10;
      due("byte " + b + " alone, USE 0", firstOfHours, new TurnedLand(), 0, "" + (char) b);
      due("byte " + b + " alone, USE 1", firstOfPrice, new TurnedLand(), 1, "" + (char) b);
      int behind = isDigit ? 1 : SIGNS.indexOf(b) >= 0 ? -12 : -11;
      due("byte " + b + " behind a digit, USE 0", behind, new TurnedLand(), 0, "1" + (char) b);
      due("byte " + b + " behind a digit, USE 1", behind, new TurnedLand(), 1, "1" + (char) b);
    }
  }

  private static void blanks() {
    term(2, "No blanks.");
    fault(0, " 1");
    fault(1, "1 ");
    fault(1, "1 +2");
    fault(2, "1+ 2");
    fault(1, "( 1)");
    fault(2, "(1 )");
    fault(1, "! 1");
    fault(1, "1\t");
    fault(1, "1\n");
    fault(1, "1\u0000");
  }

  private static void open() {
    term(2, "At most 5 of ! and ( are open at once.");
    for (int n = 0; n <= 5; n++) {
      isText("(".repeat(n) + "1" + ")".repeat(n));
      isText("!".repeat(n) + "1");
      isText("!".repeat(n) + "(".repeat(5 - n) + "1" + ")".repeat(5 - n));
      isText("(".repeat(n) + "!".repeat(5 - n) + "1" + ")".repeat(n));
      fault(5, "(".repeat(n) + "!".repeat(6 - n) + "1" + ")".repeat(n));
      fault(5, "!".repeat(n) + "(".repeat(6 - n) + "1" + ")".repeat(6 - n));
    }
    fault(5, "((((((1))))))");
    fault(5, "!!!!!!");
    fault(5, "(((((");
    fault(5, "(((((!");
    isText("!!!!!1+!!!!!1");
    isText("(((((1)))))+(((((1)))))");
    isText("!!!!!1|(((((1)))))&!(((!1)))");
    isText("(!!!!1+!!!!1)*!!!!!1");
    fault(11, "(!!!!1+!!!!!1)");
    isText("((((!1+!1))))");
    fault(8, "((((!1+!!1))))");
    fault(11, "(((((1)))))((");
    isText("!(!(!1))");
    fault(5, "!(!(!!1))");
    price(1, "!!!!!0");
    price(0, "!!!!0");
    price(3, "(((((1)))))+!0+!!5");
  }

  /** As many parts as 60 bytes hold. */
  private static void wholeTape() {
    term(2, "TEXTS are read from THE TAPE (bytes, at most 60): T: A { | A }.");
    for (char sign : "+-*/%&|".toCharArray()) {
      isText(("1" + sign).repeat(29) + "1");
      isText(("1" + sign).repeat(29) + "11");
      fault(60, ("1" + sign).repeat(30));
    }
    price(19 * 99 + 999, "99+".repeat(19) + "999");
    price(29 * 9 + 90, "9+".repeat(29) + "90");
    price(61, "90" + "-1".repeat(29));
    price(14 + 99, "(1)+".repeat(14) + "(99)");
    price(1, "!!!!!1|".repeat(8) + "!!10");
    for (int last = 0; last <= 1; last++) {
      price(last, "0|1&1<1+1*(".repeat(4) + "00|1&1<1+1*" + last + "))))");
    }
  }

  private static void ints() {
    term(2, "Ints that wrap; / cut, % the rest that it leaves, both by 0 are 0;");
    value(MAX, "1024*2048*1024-1");
    value(MIN, "1024*2048*1024");
    value(MIN, "1024*2048*1024-1+1");
    value(MAX, "0-1024*2048*1024-1");
    value(MIN, "0-1024*2048*1024");
    value(0, "1024*2048*1024*2");
    value(9999 * 9999 * 9999, "9999*9999*9999");
    value(MIN, "1024*2048*1024/(0-1)");
    value(0, "1024*2048*1024%(0-1)");
    value(-3, "(0-7)/2");
    value(-3, "7/(0-2)");
    value(3, "(0-7)/(0-2)");
    value(-1, "(0-7)%2");
    value(1, "7%(0-2)");
    value(-1, "(0-7)%(0-2)");
    value(0, "1/2");
    value(0, "(0-1)/2");
    value(1, "1/1");
    value(0, "7/0");
    value(0, "7%0");
    value(0, "0/0");
    value(0, "0%0");
    value(0, "(0-7)/0");
    value(0, "1024*2048*1024/0");
    value(5, "5+7/(3-3)");
    value(5, "5+7%(3-3)");
  }

  private static void truths() {
    term(2, "| & < = > ! are 1 or 0, what is not 0 being true; all is worked out.");
    value(1, "2|0");
    value(1, "0|(0-2)");
    value(1, "2|3");
    value(0, "0|0");
    value(1, "2&4");
    value(0, "2&0");
    value(0, "0&2");
    value(1, "(0-1)&1024*2048*1024");
    value(0, "!9");
    value(0, "!(0-1)");
    value(1, "!0");
    value(0, "!1024*2048");
    value(2048, "!0*2048");
    value(1, "1<2");
    value(0, "2<2");
    value(0, "3<2");
    value(0, "1>2");
    value(0, "2>2");
    value(1, "3>2");
    value(0, "1=2");
    value(1, "2=2");
    value(1, "1024*2048*1024<0");
    value(1, "1024*2048*1024-1>0");
    value(0, "1024*2048*1024>0-1");
    value(2, "(1<2)+(2=2)+(2>3)");
    value(1, "1|1/0");
    value(0, "0&1/0");
  }

  private static void faults() {
    term(2, "FAULT: the place of the first byte with which no TEXT goes on; how many there are, if it ends too early.");
    fault(0, "+");
    fault(0, "x1");
    fault(2, "1+");
    fault(4, "1+2*");
    fault(3, "1+2x");
    fault(3, "1+2)");
    fault(4, "(1+2");
    fault(5, "(1+2)x");
    fault(7, "1<2&3<4<5");
    fault(3, "1=2<");
    fault(6, "(1<2)=");
    fault(4, "1<2|");
    fault(4, "1<2|=1");
    fault(7, "1+2+3+4)");
    fault(59, "1+".repeat(29) + "1x");
    fault(58, "1+".repeat(29) + "x1");
    fault(60, "(" + "1+".repeat(29) + "1");
    fault(60, "1-".repeat(30));
    fault(60, "1-".repeat(29) + "!!");
  }

  private static TurnedLand ends(int c, int d) {
    TurnedLand x = land(c, d);
    x.join(edge(0, EAST), edge(1, WEST), STRAIGHT);
    x.join(edge(0, NORTH), edge(1, NORTH), TURNED);
    return x;
  }

  private static void hoursUse() {
    term(2, "USES: 0 HOURS of a CROSSING: c COST of the SQUARE one leaves, d COST of that one comes to, h HAND ahead of it,"
        + " j 1 if the JOIN is TURNED, else 0; held within 1 .. 999; without a TEXT c.");
    int[][] held = {{-1, 1}, {0, 1}, {1, 1}, {2, 2}, {998, 998}, {999, 999}, {1000, 999}, {9999, 999}, {MIN, 1}, {MAX, 999}};
    for (int[] h : held) {
      TurnedLand x = ends(50, 60);
      due("a TEXT of " + h[0], 1, text(x, 0, spelt(h[0])));
      due(h[0] + " held", h[1], x.soonest(0, 2));
      x.person(0);
      x.cross(0, EAST);
      due(h[0] + " held, of PEOPLE", h[1], x.personIs(0, 1));
      x.walk(0, 0, 1);
      due(h[0] + " held, of a WALK", h[1], x.gone(0, 0, 1));
    }
    int[][] names = {{0, 2, 1}, {1, 3, 11}, {0, 3, 101}, {1, 2, 111}};
    for (int[] n : names) {
      TurnedLand x = ends(1, 99);
      text(x, 0, "1+h*10+j*100");
      due("h and j from " + n[0] + " to " + n[1], n[2], x.soonest(n[0], n[1]));
      text(x, 0, "c");
      due("c leaving SQUARE 0", 1, x.soonest(n[0], n[1]));
      due("c leaving SQUARE 1", 99, x.soonest(n[1], n[0]));
      text(x, 0, "d");
      due("d leaving SQUARE 0", 99, x.soonest(n[0], n[1]));
      due("d leaving SQUARE 1", 1, x.soonest(n[1], n[0]));
      x.untell(0);
      due("without a TEXT, the least COST", 1, x.soonest(n[0], n[1]));
      due("without a TEXT, the greatest COST", 99, x.soonest(n[1], n[0]));
    }
    TurnedLand self = land(42);
    self.join(EAST, WEST, TURNED);
    text(self, 0, "c*10+d+j*100-h*7");
    due("from a SQUARE to itself, h 0", 562, self.soonest(0, 1));
    due("from a SQUARE to itself, h 1", 555, self.soonest(1, 0));
  }

  private static void priceUse() {
    term(2, "1 PRICE of a THING to somebody with a HAND: w WORTH, a ALIKE, s 1 if both HANDS are the same, else 0;"
        + " held within 0 .. 9999; without w / (2 - (a | s)).");
    int[][] held = {{-1, 0}, {0, 0}, {1, 1}, {9998, 9998}, {9999, 9999}, {10000, 9999}, {MIN, 0}, {MAX, 9999}};
    for (int[] h : held) {
      TurnedLand x = land(1);
      x.thing(0, 50, 0);
      due("a TEXT of " + h[0], 1, text(x, 1, spelt(h[0])));
      due(h[0] + " held", h[1], x.thingIs(0, 3));
      due(h[0] + " held, to the other HAND", h[1], x.thingIs(0, 4));
    }
    for (int lies = 0; lies <= 1; lies++) {
      for (int alike = 0; alike <= 1; alike++) {
        for (int hand = 0; hand <= 1; hand++) {
          int same = lies == hand ? 1 : 0;
          TurnedLand x = land(1, 1);
          x.thing(2 + lies, 7, alike);
          text(x, 1, "w+a*10+s*100");
          due("w, a, s of " + lies + alike + hand, 7 + 10 * alike + 100 * same, x.thingIs(0, 3 + hand));
        }
      }
    }
    int[][] without = {{0, 0, 0}, {1, 1, 0}, {2, 2, 1}, {3, 3, 1}, {9998, 9998, 4999}, {9999, 9999, 4999}};
    for (int[] w : without) {
      TurnedLand x = land(1);
      x.thing(0, w[0], 0);
      x.thing(0, w[0], 1);
      due("without a TEXT, the same HAND, WORTH " + w[0], w[1], x.thingIs(0, 3));
      due("without a TEXT, the other HAND", w[2], x.thingIs(0, 4));
      due("without a TEXT, ALIKE, the same HAND", w[1], x.thingIs(1, 3));
      due("without a TEXT, ALIKE, the other HAND", w[1], x.thingIs(1, 4));
    }
  }
}
