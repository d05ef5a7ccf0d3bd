/** Each promise of the document by calls and the answers that are due, worked out by hand. */
public final class PromisesTest {
  private static final int BEYOND = -1000001;
  private static final int NONE = -1000002;
  private static final int STATE = -1000003;
  private static final int FULL = -1000004;
  private static final int KIND = -1000005;
  private static final int PARTED = -1000006;
  private static final int[] WRONG = {-1, Integer.MIN_VALUE, Integer.MAX_VALUE};
  private static final int EAST = 0;
  private static final int NORTH = 1;
  private static final int WEST = 2;
  private static final int SOUTH = 3;

  private static final Tally TALLY = new Tally("PromisesTest");

  private static void due(long want, long got) {
    int line = 0;
    for (StackTraceElement at : new Throwable().getStackTrace()) {
      if (line == 0 && !at.getMethodName().equals("fault") && !at.getMethodName().equals("due")) line = at.getLineNumber();
    }
    TALLY.due("line " + line, got, want);
  }

  private static int edge(int square, int side) {
    return 4 * square + side;
  }

  /** A land of squares with these costs. */
  private static TurnedLand land(int... costs) {
    TurnedLand x = new TurnedLand();
    for (int cost : costs) x.square(cost);
    return x;
  }

  /** Two squares (5 and 7 hours): east of 0 to west of 1 straight, north of 0 to south of 1 turned. */
  private static TurnedLand pair() {
    TurnedLand x = land(5, 7);
    x.join(edge(0, EAST), edge(1, WEST), 0);
    x.join(edge(0, NORTH), edge(1, SOUTH), 1);
    return x;
  }

  private static int feed(TurnedLand x, String text) {
    int taped = x.count(6);
    for (int i = 0; i < text.length(); i += 8) {
      int n = Math.min(8, text.length() - i);
      long word = 0;
      for (int k = n - 1; k >= 0; k--) word = word << 8 | text.charAt(i + k);
      taped = x.feed(word, n);
    }
    return taped;
  }

  private static int text(TurnedLand x, int use, String text) {
    feed(x, text);
    return x.text(use);
  }

  /** The value of a TEXT with a = 1 and s as told, by a THING's PRICE (held within 0 .. 9999). */
  private static int value(String text, int worth, int same) {
    TurnedLand x = land(1);
    x.thing(0, worth, 1);
    if (text(x, 1, text) != 1) return Integer.MIN_VALUE;
    return x.thingIs(0, same == 1 ? 3 : 4);
  }

  private static void tell(TurnedLand x, int... numbers) {
    for (int number : numbers) x.tell(number);
  }

  public static void main(String[] args) {
    newObject();
    square();
    cost();
    join();
    joinFull();
    joinIs();
    turn();
    part();
    across();
    landEmptyAndOne();
    landCorners();
    landPartsRims();
    landTurned();
    plain();
    plainCuts();
    plainNone();
    feed();
    text();
    textFaults();
    textNumbersAndNames();
    textOpen();
    textValues();
    textHours();
    untell();
    soonest();
    reached();
    first();
    walk();
    walkIs();
    walkIsSo();
    walkIsSoPairToldWhole();
    as();
    set();
    gone();
    stops();
    person();
    personIs();
    cross();
    stroll();
    meet();
    meetWhere();
    thing();
    thingIs();
    bring();
    bringHand();
    doubt();
    fact();
    forget();
    agree();
    agreeGone();
    known();
    test();
    seed();
    voice();
    voiceKinds();
    voiceTraces();
    body();
    sheet();
    put();
    move();
    joins();
    image();
    imageAll();
    restore();
    tell();
    check();
    count();
    told();
    TALLY.close();
  }

  private static void newObject() {
    TurnedLand x = new TurnedLand();
    for (int what = 0; what <= 8; what++) due(0, x.count(what));
    due(1, x.count(9));
    due(0, x.count(10));
    for (int k = 1; k <= 6; k++) due(0, x.told(k));
    due(NONE, x.restore());
    due(NONE, x.put(0, 0, 0));
    due(BEYOND, x.soonest(0, 0));
    due(BEYOND, x.reached(0));
    due(BEYOND, x.across(0));
    due(BEYOND, x.person(0));
    due(BEYOND, x.walk(0, 0, 0));
  }

  private static void square() {
    TurnedLand x = new TurnedLand();
    due(BEYOND, x.square(0));
    due(BEYOND, x.square(100));
    for (int wrong : WRONG) due(BEYOND, x.square(wrong));
    due(0, x.count(0));
    due(0, x.square(1));
    due(1, x.square(99));
    for (int i = 2; i < 8; i++) due(i, x.square(3));
    due(FULL, x.square(3));
    due(BEYOND, x.square(0));
    due(8, x.count(0));
    due(1, x.told(4));
  }

  private static void cost() {
    TurnedLand x = land(5, 7);
    due(7, x.cost(1, 99));
    due(99, x.cost(1, 1));
    due(5, x.cost(0, 6));
    due(BEYOND, x.cost(2, 6));
    due(BEYOND, x.cost(-1, 6));
    due(BEYOND, x.cost(0, 0));
    due(BEYOND, x.cost(0, 100));
    for (int wrong : WRONG) due(BEYOND, x.cost(wrong, 5));
    due(6, x.cost(0, 6));
    x.join(edge(0, EAST), edge(1, WEST), 0);
    x.cost(0, 44);
    due(44, x.soonest(0, 2));
  }

  private static void join() {
    TurnedLand x = land(5, 7);
    due(BEYOND, x.join(0, 0, 0));
    due(BEYOND, x.join(-1, 0, 0));
    due(BEYOND, x.join(0, 8, 0));
    due(BEYOND, x.join(8, 0, 0));
    due(BEYOND, x.join(0, 4, 2));
    due(BEYOND, x.join(0, 4, -1));
    for (int wrong : WRONG) due(BEYOND, x.join(wrong, 0, 0));
    due(0, x.count(1));
    due(0, x.join(0, 7, 0));
    due(1, x.join(1, 3, 1));
    due(STATE, x.join(0, 5, 0));
    due(STATE, x.join(5, 7, 0));
    due(STATE, x.join(3, 1, 0));
    due(BEYOND, x.join(0, 0, 0));
    due(BEYOND, x.join(0, 7, 2));
    due(2, x.count(1));
    due(2, x.join(4, 6, 1));
  }

  /** Sixteen JOINS take all EDGES, so STATE is always ahead of FULL. */
  private static void joinFull() {
    TurnedLand x = land(1, 2, 3, 4, 5, 6, 7, 8);
    for (int i = 0; i < 16; i++) due(i, x.join(2 * i, 2 * i + 1, i % 2));
    due(16, x.count(1));
    due(STATE, x.join(0, 31, 0));
    due(16, x.land(1));
    due(0, x.land(4));
    due(31, x.across(30));
  }

  private static void joinIs() {
    TurnedLand x = pair();
    due(0, x.joinIs(0, 0));
    due(6, x.joinIs(0, 1));
    due(0, x.joinIs(0, 2));
    due(1, x.joinIs(1, 0));
    due(7, x.joinIs(1, 1));
    due(1, x.joinIs(1, 2));
    due(BEYOND, x.joinIs(2, 0));
    due(BEYOND, x.joinIs(-1, 0));
    due(BEYOND, x.joinIs(0, 3));
    due(BEYOND, x.joinIs(0, -1));
    for (int wrong : WRONG) due(BEYOND, x.joinIs(wrong, wrong));
    due(2, x.join(5, 2, 0));
    due(5, x.joinIs(2, 0));
    due(2, x.joinIs(2, 1));
  }

  private static void turn() {
    TurnedLand x = pair();
    due(0, x.turn(0, 1));
    due(1, x.turn(0, 1));
    due(1, x.joinIs(0, 2));
    due(1, x.turn(0, 0));
    due(0, x.joinIs(0, 2));
    due(BEYOND, x.turn(2, 0));
    due(BEYOND, x.turn(0, 2));
    due(BEYOND, x.turn(0, -1));
    for (int wrong : WRONG) due(BEYOND, x.turn(wrong, 0));
    due(1, x.turn(1, 0));
    due(0, x.land(5));
  }

  private static void part() {
    TurnedLand x = pair();
    x.doubt(3);
    due(1, x.part());
    due(1, x.count(10));
    due(NONE, x.across(1));
    due(NONE, x.across(7));
    due(6, x.across(0));
    due(1, x.join(1, 7, 0));
    due(1, x.count(10));
    due(1, x.part());
    due(0, x.part());
    due(0, x.count(10));
    due(STATE, x.part());
    due(BEYOND, x.joinIs(0, 0));
    due(1, x.told(3));
  }

  private static void across() {
    TurnedLand x = pair();
    due(6, x.across(0));
    due(0, x.across(6));
    due(7, x.across(1));
    due(1, x.across(7));
    due(NONE, x.across(2));
    due(BEYOND, x.across(8));
    due(BEYOND, x.across(-1));
    for (int wrong : WRONG) due(BEYOND, x.across(wrong));
    x.join(2, 3, 0);
    due(3, x.across(2));
    due(2, x.across(3));
  }

  private static void landEmptyAndOne() {
    TurnedLand x = new TurnedLand();
    for (int what = 0; what <= 5; what++) due(0, x.land(what));
    due(BEYOND, x.land(6));
    for (int wrong : WRONG) due(BEYOND, x.land(wrong));
    x.square(1);
    int[] disc = {4, 4, 1, 1, 1, 0};
    for (int what = 0; what <= 5; what++) due(disc[what], x.land(what));
    x.join(EAST, WEST, 1);
    int[] band = {2, 3, 0, 1, 1, 1};
    for (int what = 0; what <= 5; what++) due(band[what], x.land(what));
  }

  /** One square closed up in each of the ways: torus, bottle, projective plane, ball. */
  private static void landCorners() {
    int[][] lands = {
      {EAST, WEST, 0, NORTH, SOUTH, 0, 1, 2, 0, 1, 0, 0},
      {EAST, WEST, 1, NORTH, SOUTH, 0, 1, 2, 0, 1, 0, 1},
      {EAST, WEST, 1, NORTH, SOUTH, 1, 2, 2, 1, 1, 0, 1},
      {EAST, NORTH, 0, WEST, SOUTH, 0, 3, 2, 2, 1, 0, 0},
      {EAST, NORTH, 1, WEST, SOUTH, 0, 2, 2, 1, 1, 0, 1},
      {EAST, NORTH, 1, WEST, SOUTH, 1, 1, 2, 0, 1, 0, 1},
    };
    for (int[] l : lands) {
      TurnedLand x = land(1);
      x.join(l[0], l[1], l[2]);
      x.join(l[3], l[4], l[5]);
      for (int what = 0; what <= 5; what++) due(l[6 + what], x.land(what));
    }
  }

  private static void landPartsRims() {
    TurnedLand x = land(1, 2, 3, 4);
    due(4, x.land(3));
    due(4, x.land(4));
    due(16, x.land(0));
    x.join(edge(0, EAST), edge(1, WEST), 0);
    due(3, x.land(3));
    due(3, x.land(4));
    due(14, x.land(0));
    due(15, x.land(1));
    due(3, x.land(2));
    x.join(edge(2, EAST), edge(3, WEST), 1);
    due(2, x.land(3));
    x.join(edge(2, WEST), edge(3, EAST), 1);
    due(3, x.land(4));
    due(0, x.land(5));
    x.join(edge(1, EAST), edge(2, NORTH), 0);
    due(1, x.land(3));
    due(2, x.land(4));
    x.turn(1, 0);
    due(1, x.land(5));
    TurnedLand pipe = land(1);
    pipe.join(NORTH, SOUTH, 0);
    due(2, pipe.land(4));
    TurnedLand touching = land(1, 1);
    touching.join(edge(0, EAST), edge(1, WEST), 0);
    touching.join(edge(0, WEST), edge(1, EAST), 0);
    due(2, touching.land(4));
    touching.join(edge(0, NORTH), edge(1, SOUTH), 0);
    due(1, touching.land(4));
  }

  private static void plain() {
    TurnedLand x = new TurnedLand();
    due(0, x.plain());
    x = pair();
    due(1, x.plain());
    x.turn(0, 1);
    due(0, x.plain());
    x.join(edge(0, WEST), edge(0, SOUTH), 1);
    due(1, x.plain());
    x.join(edge(1, NORTH), edge(1, EAST), 1);
    due(2, x.plain());
    due(4, x.count(1));
  }

  /** A ring of four SQUARES, its JOINS in any order: one comes home turned if an odd number is TURNED. */
  private static void landTurned() {
    int[][] orders = {{0, 1, 2, 3}, {0, 2, 1, 3}, {3, 1, 2, 0}, {2, 0, 3, 1}};
    for (int[] order : orders) {
      for (int turned = 0; turned < 16; turned++) {
        TurnedLand x = land(1, 1, 1, 1);
        for (int i : order) x.join(edge(i, EAST), edge((i + 1) % 4, WEST), turned >> i & 1);
        due(Integer.bitCount(turned) % 2, x.land(5));
        due(Integer.bitCount(turned) % 2, x.plain());
      }
    }
  }

  /** Four SQUARES, each joined to itself: each TURNED one takes a cut of its own. */
  private static void plainCuts() {
    for (int turned = 0; turned < 16; turned++) {
      TurnedLand x = land(1, 1, 1, 1);
      for (int i = 0; i < 4; i++) x.join(edge(i, EAST), edge(i, WEST), turned >> i & 1);
      int cuts = Integer.bitCount(turned);
      due(cuts > 2 ? NONE : cuts, x.plain());
    }
  }

  private static void plainNone() {
    TurnedLand x = land(1, 1, 1);
    for (int s = 0; s < 3; s++) x.join(edge(s, EAST), edge(s, WEST), 1);
    due(NONE, x.plain());
    due(1, x.told(2));
    x.turn(2, 0);
    due(2, x.plain());
    x.turn(0, 0);
    due(1, x.plain());
    x.turn(1, 0);
    due(0, x.plain());
  }

  private static void feed() {
    TurnedLand x = land(1, 2);
    due(BEYOND, x.feed(0, 0));
    due(BEYOND, x.feed(0, 9));
    for (int wrong : WRONG) due(BEYOND, x.feed(0, wrong));
    due(3, x.feed(0x4142_432B_64L, 3));
    due(3, x.count(6));
    due(11, x.feed(-1L, 8));
    for (int i = 1; i <= 6; i++) due(11 + 8 * i, x.feed(0L, 8));
    due(FULL, x.feed(0L, 2));
    due(BEYOND, x.feed(0L, 9));
    due(59, x.count(6));
    due(60, x.feed(0L, 1));
    due(FULL, x.feed(0L, 1));
    due(2, x.told(4));
    due(-12, x.text(0));
    due(0, x.count(6));
    due(1, x.feed(0x7F00_0000_0000_0063L, 1));
    due(1, x.text(0));
    x.feed(0x63L, 1);
    x.feed(0x2BL, 1);
    x.feed(0x64L, 1);
    due(1, x.text(0));
    x.join(edge(0, EAST), edge(1, WEST), 0);
    due(3, x.soonest(0, 2));
    x.feed(0x2B63L, 2);
    due(10, x.feed(0x3131_3131_3131_3164L, 8));
    due(-13, x.text(0));
  }

  private static void text() {
    TurnedLand x = land(9, 4);
    x.join(edge(0, EAST), edge(1, WEST), 0);
    feed(x, "d*2");
    due(BEYOND, x.text(2));
    due(BEYOND, x.text(-1));
    for (int wrong : WRONG) due(BEYOND, x.text(wrong));
    due(3, x.count(6));
    due(1, x.text(0));
    due(0, x.count(6));
    due(8, x.soonest(0, 2));
    due(-12, text(x, 0, "c+"));
    due(0, x.count(6));
    due(8, x.soonest(0, 2));
    due(1, text(x, 0, "3"));
    due(3, x.soonest(0, 2));
    due(-10, x.text(0));
    due(0, x.told(2));
    due(5, x.told(1));
    due(1, text(x, 1, "w/3"));
    x.thing(0, 10, 0);
    due(3, x.thingIs(0, 3));
    due(3, x.soonest(0, 2));
  }

  private static void fault(int place, int use, String text) {
    due(-10 - place, text(new TurnedLand(), use, text));
  }

  private static void textFaults() {
    for (int use = 0; use <= 1; use++) {
      for (char sign : "|&<=>+-*/%) x\u00ff\u0000".toCharArray()) fault(0, use, "" + sign);
      for (char sign : "|&<=>+-*/%".toCharArray()) {
        fault(2, use, "1" + sign);
        fault(2, use, "1" + sign + sign + "1");
      }
      fault(1, use, "1 ");
      fault(1, use, "1(");
      fault(1, use, "1!");
      fault(1, use, "1)");
      fault(3, use, "(1)1");
      fault(1, use, "(");
      fault(2, use, "(1");
      fault(2, use, "(1!");
      fault(1, use, "()");
      fault(1, use, "!");
      fault(3, use, "1<2<3");
      fault(3, use, "1=2>3");
      fault(8, use, "(1<2&1>2=1");
      fault(7, use, "1+2<3-4>5");
      fault(7, use, "(1<2)<3=3");
    }
    fault(15, 0, "1<2&2<3|4=(5>6)<7");
    due(1, text(new TurnedLand(), 0, "1<2&2<3|4=(5>6)"));
    due(1, text(new TurnedLand(), 0, "1<2|2=2"));
  }

  private static void textNumbersAndNames() {
    fault(4, 0, "12345");
    fault(6, 0, "1+00000");
    due(1, text(new TurnedLand(), 0, "9999"));
    due(1, text(new TurnedLand(), 0, "0000+0"));
    for (char name : "cdhj".toCharArray()) {
      due(1, text(new TurnedLand(), 0, "" + name));
      fault(0, 1, "" + name);
      fault(1, 0, name + "c");
      fault(1, 0, "1" + name);
      fault(1, 0, name + "1");
    }
    for (char name : "was".toCharArray()) {
      due(1, text(new TurnedLand(), 1, "" + name));
      fault(0, 0, "" + name);
    }
    fault(0, 0, "C");
    fault(60, 0, "1+1+1+1+1+1+1+1+1+1+1+1+1+1+1+1+1+1+1+1+1+1+1+1+1+1+1+1+1+1+");
    due(1, text(new TurnedLand(), 0, "10+1+1+1+1+1+1+1+1+1+1+1+1+1+1+1+1+1+1+1+1+1+1+1+1+1+1+1+1+1"));
  }

  private static void textOpen() {
    due(1, text(new TurnedLand(), 0, "(((((c)))))"));
    fault(5, 0, "((((((c))))))");
    due(1, text(new TurnedLand(), 0, "!!!!!c"));
    fault(5, 0, "!!!!!!c");
    due(1, text(new TurnedLand(), 0, "!(!(!c))"));
    fault(5, 0, "!(!(!(c)))");
    fault(5, 0, "!(!(!!c))");
    due(1, text(new TurnedLand(), 0, "!!!!!c+!!!!!c*(((((c)))))"));
    due(1, text(new TurnedLand(), 0, "!!c+((((!c|1)))+!!!!c)"));
    fault(16, 0, "((((!c|1)))+!!!!!c)");
    fault(5, 0, "!!!!!");
    fault(5, 0, "(((((");
  }

  private static void textValues() {
    due(14, value("2+3*4", 0, 0));
    due(20, value("(2+3)*4", 0, 0));
    due(5, value("10-3-2", 0, 0));
    due(2, value("20/5/2", 0, 0));
    due(6, value("20%7/1", 0, 0));
    due(8, value("7/2*2+7%2+1", 0, 0));
    due(7, value("10+(0-7)/2", 0, 0));
    due(9, value("10+(0-7)%2", 0, 0));
    due(5, value("5+7/0", 0, 0));
    due(5, value("5+7%0", 0, 0));
    due(1, value("1<2", 0, 0));
    due(0, value("2<2", 0, 0));
    due(1, value("2=1+1", 0, 0));
    due(0, value("3=2", 0, 0));
    due(1, value("3>2", 0, 0));
    due(0, value("2>2", 0, 0));
    due(1, value("5&7", 0, 0));
    due(0, value("5&0", 0, 0));
    due(1, value("1&1", 0, 0));
    due(1, value("0|7", 0, 0));
    due(1, value("6|5", 0, 0));
    due(0, value("0|0", 0, 0));
    due(1, value("1|0&0", 0, 0));
    due(1, value("0&0|1", 0, 0));
    due(0, value("(1|0)&0", 0, 0));
    due(0, value("!7", 0, 0));
    due(1, value("!0", 0, 0));
    due(1, value("!!7", 0, 0));
    due(3, value("!0+2", 0, 0));
    due(0, value("!0*0", 0, 0));
    due(0, value("0-5", 0, 0));
    due(9999, value("9999+1", 0, 0));
    due(1, value("(0-5)&1", 0, 0));
    due(8704, value("9999*9999*9999%9999*0+8704", 0, 0));
    due(1, value("9999*9999*9999<0", 0, 0));
    due(1, value("2048*1024*1024=0-2048*1024*1024", 0, 0));
    due(1, value("(0-2048*1024*1024)/(0-1)=2048*1024*1024", 0, 0));
    due(0, value("(0-2048*1024*1024)%(0-1)", 0, 0));
    due(7, value("007", 0, 0));
    due(43, value("w+a", 42, 0));
    due(42, value("w*s", 42, 1));
    due(0, value("w*s", 42, 0));
    TurnedLand x = land(1);
    x.thing(0, 1, 1);
    for (int i = 1; i < 9; i++) {
      due(1, text(x, 1, "w+a+s+1+1+1+1+1+1+1+1+1+1+1+1+1+1+1+1+1+1+1+1+1+1+1+1+1+" + i));
      due(28 + i, x.thingIs(0, 3));
    }
  }

  private static void textHours() {
    TurnedLand x = land(20, 3);
    x.join(edge(0, EAST), edge(1, WEST), 0);
    x.join(edge(0, NORTH), edge(1, SOUTH), 1);
    x.person(0);
    due(1, text(x, 0, "c*10+d+100*h+400*j"));
    due(203, x.soonest(0, 2));
    due(603, x.soonest(0, 3));
    due(150, x.soonest(3, 1));
    due(2, x.cross(0, EAST));
    due(203, x.personIs(0, 1));
    due(1, x.cross(0, SOUTH));
    due(203 + 450, x.personIs(0, 1));
    due(1, text(x, 0, "0-9"));
    due(1, x.soonest(0, 2));
    due(1, text(x, 0, "1000"));
    due(999, x.soonest(0, 2));
    due(1, text(x, 0, "999"));
    due(999, x.soonest(0, 2));
    due(1, x.untell(0));
    due(20, x.soonest(0, 2));
    due(3, x.soonest(2, 0));
  }

  private static void untell() {
    TurnedLand x = land(8, 1);
    x.join(edge(0, EAST), edge(1, WEST), 0);
    x.thing(1, 30, 0);
    due(0, x.untell(0));
    due(0, x.untell(1));
    text(x, 0, "2");
    text(x, 1, "1");
    due(BEYOND, x.untell(2));
    for (int wrong : WRONG) due(BEYOND, x.untell(wrong));
    due(1, x.untell(1));
    due(2, x.soonest(0, 2));
    due(15, x.thingIs(0, 3));
    due(1, x.untell(0));
    due(8, x.soonest(0, 2));
    due(0, x.untell(0));
    text(x, 0, "2");
    text(x, 0, "+");
    due(1, x.untell(0));
  }

  /** Four squares in a ring; the way about by 1 and 2 is sooner than the way by 3. */
  private static TurnedLand ring() {
    TurnedLand x = land(2, 3, 4, 90);
    x.join(edge(0, EAST), edge(1, WEST), 0);
    x.join(edge(1, EAST), edge(2, WEST), 1);
    x.join(edge(2, EAST), edge(3, WEST), 0);
    x.join(edge(3, EAST), edge(0, WEST), 0);
    return x;
  }

  private static void soonest() {
    TurnedLand x = ring();
    due(0, x.soonest(0, 0));
    due(2, x.soonest(0, 2));
    due(5, x.soonest(0, 5));
    due(2 + 90, x.soonest(0, 4));
    due(2, x.soonest(0, 6));
    due(9, x.soonest(0, 7));
    due(2 + 3 + 4 + 90, x.soonest(0, 1));
    due(4 + 3 + 2, x.soonest(4, 7));
    due(9, x.soonest(5, 6));
    due(BEYOND, x.soonest(8, 0));
    due(BEYOND, x.soonest(0, 8));
    for (int wrong : WRONG) due(BEYOND, x.soonest(wrong, 0));
    for (int wrong : WRONG) due(BEYOND, x.soonest(0, wrong));
    x.turn(1, 0);
    due(NONE, x.soonest(0, 1));
    due(5, x.soonest(0, 4));
    x.square(1);
    due(NONE, x.soonest(0, 8));
    due(0, x.soonest(9, 9));
    due(2, x.told(2));
  }

  private static void reached() {
    TurnedLand x = ring();
    due(255, x.reached(0));
    x.turn(1, 0);
    due(0b01010101, x.reached(0));
    due(0b10101010, x.reached(7));
    x.square(1);
    due(1 << 9, x.reached(9));
    TurnedLand row = land(1, 1, 1, 1, 1, 1, 1, 1);
    for (int i = 0; i < 7; i++) row.join(edge(i, EAST), edge(i + 1, WEST), i % 2);
    due(7, row.soonest(0, 15));
    due(NONE, row.soonest(0, 14));
    due(0b10_10_01_01_10_10_01_01, row.reached(0));
    x.part();
    x.part();
    due(0b00010101, x.reached(2));
    due(0b01000000, x.reached(6));
    due(BEYOND, x.reached(10));
    for (int wrong : WRONG) due(BEYOND, x.reached(wrong));
  }

  private static void first() {
    TurnedLand x = ring();
    due(EAST, x.first(0, 2));
    due(EAST, x.first(0, 5));
    due(WEST, x.first(0, 6));
    due(EAST, x.first(0, 7));
    due(WEST, x.first(0, 4));
    due(NONE, x.first(0, 0));
    due(BEYOND, x.first(8, 0));
    due(BEYOND, x.first(0, 8));
    for (int wrong : WRONG) due(BEYOND, x.first(wrong, wrong));
    x.turn(1, 0);
    due(NONE, x.first(0, 1));
    due(2, x.told(2));
    TurnedLand even = land(5, 5);
    even.join(edge(0, SOUTH), edge(1, WEST), 0);
    even.join(edge(1, EAST), edge(0, NORTH), 0);
    even.join(edge(0, WEST), edge(0, EAST), 1);
    due(NORTH, even.first(0, 2));
    due(EAST, even.first(2, 0));
    due(EAST, even.first(0, 1));
    due(EAST, even.first(0, 3));
    TurnedLand late = land(4, 6, 6, 1);
    late.join(edge(0, SOUTH), edge(1, WEST), 0);
    late.join(edge(0, EAST), edge(2, WEST), 0);
    late.join(edge(1, EAST), edge(3, WEST), 0);
    late.join(edge(2, EAST), edge(3, SOUTH), 0);
    due(10, late.soonest(0, 6));
    due(EAST, late.first(0, 6));
    late.cost(2, 7);
    due(SOUTH, late.first(0, 6));
    late.cost(2, 5);
    due(EAST, late.first(0, 6));
  }

  private static void walk() {
    TurnedLand x = land(1, 1);
    due(BEYOND, x.walk(7, 0, 1));
    due(BEYOND, x.walk(-1, 0, 1));
    due(BEYOND, x.walk(0, 2, 1));
    due(BEYOND, x.walk(0, -1, 1));
    due(BEYOND, x.walk(0, 0, 5));
    due(BEYOND, x.walk(0, 0, 10));
    due(BEYOND, x.walk(0, 0, 102));
    due(BEYOND, x.walk(0, 0, 125));
    due(BEYOND, x.walk(0, 0, 511));
    due(BEYOND, x.walk(0, 0, -1));
    due(BEYOND, x.walk(0, 0, 111111111));
    due(BEYOND, x.walk(0, 0, 1111111111));
    for (int wrong : WRONG) due(BEYOND, x.walk(0, 0, wrong));
    due(0, x.count(2));
    due(0, x.walk(6, 1, 0));
    due(1, x.walk(0, 0, 44444444));
    due(0, x.walkIs(0, 2));
    due(8, x.walkIs(1, 2));
    for (int i = 2; i < 10; i++) due(i, x.walk(i - 2 < 7 ? i - 2 : 0, 0, 1234));
    due(BEYOND, x.walk(7, 0, 1));
    due(FULL, x.walk(0, 0, 1));
    due(10, x.count(2));
  }

  private static void walkIs() {
    TurnedLand x = land(1, 1);
    x.walk(4, 1, 1234);
    due(4, x.walkIs(0, 0));
    due(1, x.walkIs(0, 1));
    due(4, x.walkIs(0, 2));
    due(-1, x.walkIs(0, 3));
    due(0, x.walkIs(0, 4));
    due(BEYOND, x.walkIs(0, 5));
    due(BEYOND, x.walkIs(0, -1));
    due(BEYOND, x.walkIs(1, 0));
    for (int wrong : WRONG) due(BEYOND, x.walkIs(wrong, 0));
    for (int wrong : WRONG) due(BEYOND, x.walkIs(0, wrong));
  }

  /** Whether a WALK of each of the first four KINDS is so. */
  private static void so(TurnedLand x, int square, int edges, int walk, int round, int even, int odd) {
    int[] want = {walk, round, even, odd};
    x.image();
    for (int kind = 0; kind < 4; kind++) {
      due(want[kind], x.walkIs(x.walk(kind, square, edges), 4));
    }
    x.restore();
  }

  private static void walkIsSo() {
    TurnedLand x = pair();
    so(x, 0, 0, 1, 1, 1, 0);
    so(x, 0, 1, 1, 0, 0, 0);
    so(x, 0, 2, 1, 0, 0, 0);
    so(x, 0, 13, 1, 1, 1, 0);
    so(x, 0, 14, 1, 1, 0, 1);
    so(x, 0, 24, 1, 1, 1, 0);
    so(x, 0, 1414, 1, 1, 1, 0);
    so(x, 0, 141414, 1, 1, 0, 1);
    so(x, 1, 3214, 0, 0, 0, 0);
    so(x, 1, 32, 1, 1, 0, 1);
    so(x, 0, 3, 0, 0, 0, 0);
    so(x, 0, 133, 0, 0, 0, 0);
  }

  private static void walkIsSoPairToldWhole() {
    TurnedLand x = pair();
    x.walk(4, 0, 1);
    due(0, x.walkIs(0, 4));
    x.walk(4, 1, 32);
    due(0, x.walkIs(0, 4));
    x.walk(4, 1, 3223);
    due(0, x.walkIs(1, 4));
    x.walk(4, 0, 1324);
    x.walk(0, 0, 0);
    due(1, x.walkIs(3, 4));
    due(0, x.walkIs(2, 4));
    due(5, x.walk(4, 1, 0));
    due(0, x.walkIs(5, 4));
    x.walk(5, 0, 11);
    due(0, x.walkIs(5, 4));
    x.walk(5, 0, 14);
    due(1, x.walkIs(7, 4));
    due(-1, x.set(7, 3, 12));
    due(1, x.walkIs(7, 4));
    x.set(7, 3, 11);
    due(0, x.walkIs(7, 4));
    text(x, 0, "c+100*h");
    x.set(7, 3, 12);
    due(1, x.walkIs(7, 4));
    due(212, x.gone(7, 1, 1));
    x.untell(0);
    TurnedLand last = land(1);
    for (int i = 0; i < 10; i++) {
      due(i, last.walk(4, 0, 0));
      due(0, last.walkIs(i, 4));
      if (i > 0) due(1, last.walkIs(i - 1, 4));
    }
    TurnedLand w = pair();
    due(0, w.walkIs(w.walk(6, 0, 0), 4));
    due(1, w.walkIs(w.walk(6, 0, 13), 4));
    due(0, w.walkIs(w.walk(6, 0, 14), 4));
    due(1, w.walkIs(w.walk(6, 1, 3131), 4));
    due(0, w.walkIs(w.walk(6, 1, 3), 4));
    w.square(4);
    due(0, w.walkIs(1, 4));
    TurnedLand one = land(1);
    due(1, one.walkIs(one.walk(6, 0, 0), 4));
    one.join(EAST, WEST, 1);
    due(0, one.walkIs(one.walk(6, 0, 1), 4));
    due(1, one.walkIs(one.walk(6, 0, 13), 4));
    due(1, one.walkIs(one.walk(6, 0, 11), 4));
  }

  private static void as() {
    int[][] above = {{0}, {0, 1}, {0, 1, 2}, {0, 1, 3}, {0, 4}, {0, 5}, {0, 1, 2, 6}};
    TurnedLand x = land(1);
    for (int kind = 0; kind < 7; kind++) x.walk(kind, 0, 123);
    for (int kind = 0; kind < 7; kind++) {
      for (int k = 0; k < 7; k++) {
        boolean is = false;
        for (int a : above[kind]) is |= a == k;
        due(is ? 3 : KIND, x.as(kind, k));
      }
    }
    due(BEYOND, x.as(7, 0));
    due(BEYOND, x.as(0, 7));
    due(BEYOND, x.as(0, -1));
    for (int wrong : WRONG) due(BEYOND, x.as(wrong, 0));
    x.set(0, 0, 6);
    due(3, x.as(0, 2));
  }

  private static void set() {
    TurnedLand x = land(1);
    x.walk(2, 0, 0);
    due(2, x.set(0, 0, 6));
    due(6, x.set(0, 0, 0));
    due(0, x.walkIs(0, 0));
    due(-1, x.set(0, 3, 0));
    due(0, x.set(0, 3, 9999));
    due(9999, x.set(0, 3, -1));
    due(-1, x.walkIs(0, 3));
    due(BEYOND, x.set(0, 0, 7));
    due(BEYOND, x.set(0, 0, -1));
    due(BEYOND, x.set(0, 3, 10000));
    due(BEYOND, x.set(0, 3, -2));
    due(BEYOND, x.set(0, 1, 0));
    due(BEYOND, x.set(0, 2, 0));
    due(BEYOND, x.set(0, 4, 0));
    due(BEYOND, x.set(1, 0, 0));
    for (int wrong : WRONG) due(BEYOND, x.set(wrong, 0, 0));
    due(0, x.walkIs(0, 0));
    due(-1, x.walkIs(0, 3));
  }

  private static void gone() {
    TurnedLand x = pair();
    x.walk(0, 0, 14);
    x.walk(0, 0, 2413);
    x.walk(0, 1, 0);
    x.walk(0, 0, 3);
    due(1, x.gone(0, 0, 0));
    due(0, x.gone(0, 1, 0));
    due(12, x.gone(0, 0, 1));
    due(1, x.gone(0, 0, 2));
    due(0, x.gone(1, 0, 0));
    due(24, x.gone(1, 1, 1));
    due(2, x.gone(1, 1, 2));
    due(3, x.gone(2, 1, 0));
    due(0, x.gone(2, 1, 1));
    due(0, x.gone(2, 1, 2));
    due(STATE, x.gone(3, 0, 0));
    due(BEYOND, x.gone(3, 2, 0));
    due(BEYOND, x.gone(3, -1, 0));
    due(BEYOND, x.gone(3, 0, 3));
    due(BEYOND, x.gone(3, 0, -1));
    due(BEYOND, x.gone(4, 0, 0));
    for (int wrong : WRONG) due(BEYOND, x.gone(wrong, 0, 0));
    text(x, 0, "c+100*h+j*10");
    due(5 + 7 + 10, x.gone(0, 0, 1));
    due(105 + 107 + 10, x.gone(0, 1, 1));
    due(15 + 117 + 5 + 7, x.gone(1, 0, 1));
    x.walk(0, 0, 24242424);
    x.walk(0, 0, 14141414);
    due(8, x.gone(4, 1, 2));
    due(4, x.gone(5, 0, 2));
  }

  private static void stops() {
    TurnedLand x = pair();
    x.walk(0, 0, 3);
    x.walk(0, 0, 133);
    x.walk(0, 0, 13131314);
    x.walk(0, 0, 13131312);
    x.walk(0, 0, 0);
    due(0, x.stops(0));
    due(2, x.stops(1));
    due(NONE, x.stops(2));
    due(7, x.stops(3));
    due(NONE, x.stops(4));
    x.part();
    due(7, x.stops(2));
    due(7, x.stops(3));
    due(BEYOND, x.stops(5));
    for (int wrong : WRONG) due(BEYOND, x.stops(wrong));
    x.part();
    due(0, x.stops(2));
  }

  private static void person() {
    TurnedLand x = land(1, 1);
    due(BEYOND, x.person(4));
    for (int wrong : WRONG) due(BEYOND, x.person(wrong));
    for (int i = 0; i < 6; i++) due(i, x.person(i % 4));
    due(FULL, x.person(0));
    due(BEYOND, x.person(4));
    due(6, x.count(3));
    due(1, x.personIs(5, 0));
    TurnedLand y = pair();
    y.image();
    y.person(0);
    y.cross(0, EAST);
    y.restore();
    due(0, y.person(2));
    due(0, y.personIs(0, 1));
  }

  private static void personIs() {
    TurnedLand x = pair();
    x.person(3);
    due(3, x.personIs(0, 0));
    due(0, x.personIs(0, 1));
    due(BEYOND, x.personIs(0, 2));
    due(BEYOND, x.personIs(0, -1));
    due(BEYOND, x.personIs(1, 0));
    for (int wrong : WRONG) due(BEYOND, x.personIs(wrong, 0));
    x.cross(0, WEST);
    due(1, x.personIs(0, 0));
    due(7, x.personIs(0, 1));
  }

  private static void cross() {
    TurnedLand x = pair();
    x.person(0);
    due(2, x.cross(0, EAST));
    due(1, x.cross(0, SOUTH));
    due(2, x.cross(0, NORTH));
    due(17, x.personIs(0, 1));
    due(STATE, x.cross(0, EAST));
    due(BEYOND, x.cross(0, 4));
    due(BEYOND, x.cross(0, -1));
    due(BEYOND, x.cross(1, 0));
    for (int wrong : WRONG) due(BEYOND, x.cross(wrong, 0));
    due(2, x.personIs(0, 0));
    due(17, x.personIs(0, 1));
    TurnedLand ends = land(3);
    ends.join(EAST, WEST, 0);
    ends.join(NORTH, SOUTH, 1);
    ends.person(0);
    text(ends, 0, "999");
    for (int i = 0; i < 16; i++) ends.stroll(0, 60);
    due(16 * 60 * 999, ends.personIs(0, 1));
    ends.stroll(0, 40);
    due(999000, ends.personIs(0, 1));
    ends.cross(0, EAST);
    due(999999, ends.personIs(0, 1));
    ends.cross(0, EAST);
    due(999999, ends.personIs(0, 1));
  }

  private static void stroll() {
    TurnedLand x = land(5, 6);
    x.join(0, 6, 0);
    x.join(1, 7, 1);
    x.join(2, 4, 0);
    x.person(3);
    due(BEYOND, x.stroll(0, 0));
    due(BEYOND, x.stroll(0, 61));
    due(BEYOND, x.stroll(1, 1));
    for (int wrong : WRONG) due(BEYOND, x.stroll(wrong, 1));
    for (int wrong : WRONG) due(BEYOND, x.stroll(0, wrong));
    due(1, x.count(9));
    int z = 1;
    int place = 3;
    int hours = 0;
    int[] to0 = {2, 3, 2, -1};
    int[] to1 = {0, -1, 0, 1};
    for (int n = 1; n <= 60; n++) {
      for (int i = 0; i < n; i++) {
        z = z * 1103515245 + 12345;
        int edge = (z >>> 8) % 4;
        int to = place / 2 == 0 ? to0[edge] : to1[edge];
        if (to < 0) continue;
        hours += place / 2 == 0 ? 5 : 6;
        place = to ^ place % 2;
      }
      due(place, x.stroll(0, n));
      due(z, x.count(9));
      due(hours, x.personIs(0, 1));
    }
  }

  private static void meet() {
    TurnedLand x = ring();
    x.person(0);
    x.person(4);
    x.person(0);
    x.person(1);
    due(0, x.meet(0, 1, 0));
    due(1, x.meet(0, 2, 0));
    due(0, x.meet(0, 2, 1));
    due(0, x.meet(2, 0, 2));
    due(0, x.meet(0, 3, 0));
    due(6, x.meet(0, 1, 1));
    due(3, x.meet(0, 1, 2));
    due(6, x.meet(1, 0, 1));
    due(3, x.meet(1, 0, 2));
    due(11, x.meet(0, 3, 1));
    due(BEYOND, x.meet(0, 0, 0));
    due(BEYOND, x.meet(0, 4, 1));
    due(BEYOND, x.meet(4, 0, 1));
    due(BEYOND, x.meet(0, 1, 3));
    due(BEYOND, x.meet(0, 1, -1));
    for (int wrong : WRONG) due(BEYOND, x.meet(wrong, 0, 0));
    x.turn(1, 0);
    due(NONE, x.meet(0, 3, 1));
    due(NONE, x.meet(0, 3, 2));
    due(0, x.meet(0, 3, 0));
    due(2, x.told(2));
    due(0, x.personIs(0, 0));
    due(0, x.personIs(0, 1));
  }

  /** Of several SQUARES that are as soon the least, whatever the HAND. */
  private static void meetWhere() {
    TurnedLand x = land(9, 5, 5, 9);
    x.join(edge(1, EAST), edge(2, WEST), 1);
    x.person(3);
    x.person(4);
    due(5, x.meet(0, 1, 1));
    due(1, x.meet(0, 1, 2));
    due(1, x.meet(1, 0, 2));
    x.cost(1, 4);
    due(2, x.meet(0, 1, 2));
    due(4, x.meet(0, 1, 1));
    x.join(edge(1, NORTH), edge(0, SOUTH), 0);
    x.join(edge(2, NORTH), edge(0, NORTH), 1);
    due(4, x.meet(0, 1, 1));
    x.cost(1, 2);
    x.cost(2, 2);
    x.turn(0, 0);
    due(4, x.meet(0, 1, 1));
    due(0, x.meet(0, 1, 2));
  }

  private static void thing() {
    TurnedLand x = land(1, 1);
    due(BEYOND, x.thing(4, 1, 0));
    due(BEYOND, x.thing(-1, 1, 0));
    due(BEYOND, x.thing(0, -1, 0));
    due(BEYOND, x.thing(0, 10000, 0));
    due(BEYOND, x.thing(0, 1, 2));
    due(BEYOND, x.thing(0, 1, -1));
    for (int wrong : WRONG) due(BEYOND, x.thing(wrong, 1, 0));
    due(0, x.count(4));
    for (int i = 0; i < 6; i++) due(i, x.thing(i % 4, i == 0 ? 9999 : 0, i % 2));
    due(FULL, x.thing(0, 1, 0));
    due(BEYOND, x.thing(0, 1, 2));
    due(6, x.count(4));
  }

  private static void thingIs() {
    TurnedLand x = land(1, 1);
    x.thing(3, 41, 0);
    x.thing(2, 41, 1);
    due(3, x.thingIs(0, 0));
    due(41, x.thingIs(0, 1));
    due(0, x.thingIs(0, 2));
    due(20, x.thingIs(0, 3));
    due(41, x.thingIs(0, 4));
    due(2, x.thingIs(1, 0));
    due(1, x.thingIs(1, 2));
    due(41, x.thingIs(1, 3));
    due(41, x.thingIs(1, 4));
    due(BEYOND, x.thingIs(0, 5));
    due(BEYOND, x.thingIs(0, -1));
    due(BEYOND, x.thingIs(2, 0));
    for (int wrong : WRONG) due(BEYOND, x.thingIs(wrong, 0));
    due(1, text(x, 1, "w*a+s*7-30"));
    due(0, x.thingIs(0, 3));
    due(0, x.thingIs(0, 4));
    due(18, x.thingIs(1, 3));
    due(11, x.thingIs(1, 4));
    due(1, text(x, 1, "w*9999"));
    due(9999, x.thingIs(0, 3));
    due(41, x.thingIs(0, 1));
  }

  private static void bring() {
    TurnedLand x = ring();
    x.person(0);
    due(NONE, x.bring(0));
    x.thing(2, 50, 0);
    x.thing(3, 96, 0);
    due(0, x.bring(0));
    due(2, x.thing(3, 95, 1));
    due(2, x.bring(0));
    x.cost(1, 46);
    due(2, x.bring(0));
    x.thing(0, 49, 0);
    due(2, x.bring(0));
    x.thing(0, 50, 0);
    due(4, x.bring(0));
    due(2, x.thingIs(0, 0));
    due(BEYOND, x.bring(1));
    for (int wrong : WRONG) due(BEYOND, x.bring(wrong));
    TurnedLand far = land(90, 1, 1);
    far.join(edge(0, EAST), edge(1, WEST), 0);
    far.thing(0, 1, 0);
    far.person(2);
    far.person(4);
    due(0, far.bring(0));
    due(NONE, far.bring(1));
    far.thing(0, 2, 0);
    far.thing(0, 2, 0);
    due(1, far.bring(0));
    due(1, far.told(2));
    for (int hand = 0; hand < 2; hand++) {
      TurnedLand alone = land(3);
      alone.thing(hand, 7, 0);
      alone.person(1 - hand);
      due(0, alone.bring(0));
    }
  }

  /** A THING comes the SOONEST way, though the other HAND were worth more; of two as soon with HAND 0. */
  private static void bringHand() {
    TurnedLand x = land(5, 5, 5);
    x.join(edge(0, EAST), edge(1, WEST), 0);
    x.join(edge(0, NORTH), edge(1, SOUTH), 1);
    x.person(2);
    x.person(3);
    x.thing(0, 100, 0);
    x.thing(2, 94, 0);
    due(0, x.bring(0));
    due(94, x.thingIs(1, 3));
    due(1, x.bring(1));
    TurnedLand y = land(5, 5);
    y.join(edge(0, EAST), edge(1, WEST), 0);
    y.join(edge(0, NORTH), edge(1, SOUTH), 1);
    y.person(3);
    y.thing(1, 100, 0);
    y.thing(3, 60, 0);
    due(1, y.bring(0));
    text(y, 0, "5-j");
    due(1, y.bring(0));
    text(y, 0, "5+j");
    due(0, y.bring(0));
  }

  private static void doubt() {
    TurnedLand x = land(1, 1, 1, 1);
    due(BEYOND, x.doubt(1));
    due(0, x.doubt(0));
    for (int i = 0; i < 8; i++) x.join(2 * i, 2 * i + 1, 0);
    due(0, x.doubt(0b00111111));
    due(63, x.doubt(0b11111100));
    due(BEYOND, x.doubt(0b01111111));
    due(BEYOND, x.doubt(0b1_00000000));
    for (int wrong : WRONG) due(BEYOND, x.doubt(wrong));
    due(0b11111100, x.count(10));
    due(64, x.agree());
    due(0b11111100, x.doubt(0));
    due(1, x.agree());
  }

  private static void fact() {
    TurnedLand x = land(1);
    due(BEYOND, x.fact(0, 0));
    x.walk(0, 0, 0);
    x.walk(0, 0, 1);
    due(BEYOND, x.fact(2, 0));
    due(BEYOND, x.fact(0, 2));
    due(BEYOND, x.fact(0, -1));
    for (int wrong : WRONG) due(BEYOND, x.fact(wrong, 0));
    for (int i = 0; i < 12; i++) due(i, x.fact(i % 2, i / 2 % 2));
    due(FULL, x.fact(0, 0));
    due(BEYOND, x.fact(0, 2));
    due(12, x.count(5));
  }

  private static void forget() {
    TurnedLand x = land(1);
    x.walk(0, 0, 0);
    due(0, x.forget());
    x.fact(0, 1);
    x.fact(0, 1);
    due(0, x.agree());
    due(2, x.forget());
    due(1, x.agree());
    due(0, x.count(5));
    due(0, x.fact(0, 0));
  }

  private static void agree() {
    TurnedLand x = ring();
    due(1, x.agree());
    x.walk(0, 0, 11);
    x.walk(0, 0, 1111);
    x.walk(0, 0, 13);
    x.fact(0, 1);
    due(1, x.agree());
    x.fact(2, 0);
    due(1, x.agree());
    x.doubt(0b1111);
    due(8, x.agree());
    x.fact(1, 0);
    due(4, x.agree());
    due(255, x.reached(0));
    x.turn(0, 1);
    x.turn(1, 1);
    due(4, x.agree());
    x.doubt(0b1110);
    due(2, x.agree());
    x.doubt(0b1100);
    due(0, x.agree());
    x.fact(0, 0);
    due(0, x.agree());
  }

  private static void agreeGone() {
    TurnedLand x = land(1, 1);
    x.join(edge(0, EAST), edge(1, WEST), 0);
    x.join(edge(0, NORTH), edge(1, NORTH), 0);
    x.walk(0, 0, 2);
    x.doubt(1);
    x.fact(0, 0);
    due(2, x.agree());
    x.part();
    due(0, x.agree());
    due(NONE, x.known(0));
    due(NONE, x.test());
    x.join(edge(0, NORTH), edge(1, NORTH), 1);
    due(0, x.agree());
    x.turn(1, 0);
    due(2, x.agree());
  }

  private static void known() {
    TurnedLand x = ring();
    due(0, x.known(0));
    due(1, x.known(1));
    x.doubt(0b0011);
    due(2, x.known(0));
    due(2, x.known(1));
    due(0, x.known(2));
    x.walk(0, 0, 1);
    x.walk(0, 0, 11);
    x.fact(0, 1);
    due(1, x.known(0));
    due(2, x.known(1));
    x.fact(1, 1);
    due(1, x.known(0));
    due(0, x.known(1));
    x.fact(1, 0);
    due(NONE, x.known(1));
    due(0, x.known(3));
    x.turn(3, 1);
    due(1, x.known(3));
    due(BEYOND, x.known(4));
    for (int wrong : WRONG) due(BEYOND, x.known(wrong));
    due(1, x.told(2));
  }

  private static void test() {
    TurnedLand x = ring();
    due(NONE, x.test());
    x.walk(0, 0, 2);
    due(NONE, x.test());
    x.walk(0, 0, 13);
    x.walk(0, 0, 1);
    x.walk(0, 0, 11);
    due(1, x.test());
    x.doubt(0b0011);
    due(2, x.test());
    x.fact(2, 0);
    due(3, x.test());
    x.fact(3, 0);
    due(1, x.test());
    x.fact(3, 1);
    due(0, x.agree());
    due(1, x.test());
    due(2, x.told(2));
    TurnedLand none = ring();
    none.walk(0, 0, 1);
    none.walk(0, 0, 11);
    due(0, none.test());
    none.doubt(0b0001);
    due(0, none.test());
    none.doubt(0b0010);
    due(1, none.test());
    none.doubt(0b0101);
    due(0, none.test());
  }

  private static void seed() {
    TurnedLand x = land(1);
    due(1, x.seed(BEYOND));
    due(BEYOND, x.count(9));
    due(BEYOND, x.seed(Integer.MIN_VALUE));
    due(Integer.MIN_VALUE, x.seed(0));
    due(0, x.told(1));
    x.person(0);
    x.stroll(0, 1);
    due(12345, x.count(9));
    x.stroll(0, 1);
    due(12345 * 1103515245 + 12345, x.seed(5));
  }

  private static void voice() {
    TurnedLand x = land(1);
    due(BEYOND, x.voice(0, 0, 0));
    x.walk(0, 0, 12);
    x.walk(0, 0, 1);
    x.walk(0, 0, 12);
    due(BEYOND, x.voice(0, 4, 0));
    due(BEYOND, x.voice(0, -1, 0));
    due(BEYOND, x.voice(3, 0, 0));
    for (int wrong : WRONG) due(BEYOND, x.voice(wrong, 0, 0));
    due(9, x.voice(1, 0, 8));
    due(18, x.voice(1, 1, 8));
    due(17, x.voice(1, 2, 8));
    due(4, x.voice(0, 3, 9));
    due(-4, x.voice(0, 3, -9));
    due(PARTED, x.voice(2, 3, 9));
    due(PARTED, x.voice(1, 3, 0));
    due(2, x.told(6));
    due(Integer.MIN_VALUE, x.voice(1, 0, Integer.MAX_VALUE));
    due(0, x.voice(0, 1, Integer.MIN_VALUE));
    due(BEYOND, x.voice(0, 0, BEYOND));
    due(7, x.told(1));
    due(PARTED, x.voice(0, 0, PARTED));
    due(2, x.told(6));
    x.walk(0, 0, 11);
    due(Integer.MIN_VALUE, x.voice(3, 3, Integer.MIN_VALUE));
  }

  /** WALKS 0 .. 6 of KINDS 0 .. 6 with three EDGES each: number k is the KIND. */
  private static TurnedLand chorus() {
    TurnedLand x = land(1);
    for (int kind = 0; kind < 7; kind++) x.walk(kind, 0, 111);
    return x;
  }

  private static void voiceKinds() {
    TurnedLand x = chorus();
    int[] goes = {10, 10 + 1 - 7, 10 + 2 - 7, (10 + 3 - 7) ^ 3, 14, 2, (10 + 6 - 7) * 3};
    int[] turns = {20, 8, -10, 10, 28, 4 + 3, -54};
    int[] meets = {17, 5, -13, ((5 + 3 - 7) ^ 3) * 2 - 3, 30 - 3, 4, -57};
    for (int kind = 0; kind < 7; kind++) {
      due(goes[kind], x.voice(kind, 0, 10));
      due(turns[kind], x.voice(kind, 1, 10));
      due(meets[kind], x.voice(kind, 2, 10));
    }
    due(3, x.voice(0, 3, 10));
    due(5 + (1 + 1 - 7) * 2, x.voice(1, 3, 10));
    due(10 + 8, x.voice(2, 3, 10));
    due(PARTED, x.voice(3, 3, 10));
    due(-10, x.voice(4, 3, 10));
    due(-5, x.voice(5, 3, 10));
    int ends = -3 - (1 + 6 - 7) * 6;
    due(ends - (0 - (0 + 6 - 7) * 6 - 3), x.voice(6, 3, 10));
    due((-7 / 2 + 3 - 7 ^ 3) * 2 - 3, x.voice(3, 2, -7));
  }

  private static void trace(TurnedLand x, int... bodies) {
    due(bodies.length, x.count(8));
    for (int i = 0; i < bodies.length; i++) due(bodies[i], x.body(i));
    due(NONE, x.body(bodies.length));
  }

  private static void voiceTraces() {
    TurnedLand x = chorus();
    x.voice(0, 2, 1);
    trace(x, 12, 11, 10);
    x.voice(1, 3, 1);
    trace(x, 21, 13, 11, 20, 10);
    x.voice(2, 2, 1);
    trace(x, 12, 30, 11, 20, 10);
    x.voice(3, 2, 1);
    trace(x, 40, 12, 11, 41, 20, 10);
    x.voice(4, 2, 1);
    trace(x, 50, 12, 11, 10);
    x.voice(5, 2, 1);
    trace(x, 12, 61, 11, 60);
    x.voice(6, 3, 1);
    trace(x, 71, 21, 13, 30, 11, 70, 20, 10, 12, 30, 11, 70, 20, 10);
    x.voice(3, 3, 1);
    trace(x, 21, 13);
    x.set(3, 0, 6);
    x.voice(3, 3, 1);
    trace(x, 71, 21, 13);
  }

  private static void body() {
    TurnedLand x = chorus();
    due(NONE, x.body(0));
    x.voice(5, 1, 3);
    due(61, x.body(0));
    due(11, x.body(1));
    due(60, x.body(2));
    due(NONE, x.body(3));
    for (int wrong : WRONG) due(NONE, x.body(wrong));
    due(BEYOND, x.voice(9, 0, 0));
    due(61, x.body(0));
    due(3, x.count(8));
    x.voice(0, 0, 3);
    due(10, x.body(0));
    due(NONE, x.body(1));
    x.restore();
    due(10, x.body(0));
  }

  private static void sheet() {
    TurnedLand x = land(1);
    due(BEYOND, x.sheet(4, 8, 1));
    due(BEYOND, x.sheet(-1, 8, 1));
    due(BEYOND, x.sheet(0, 7, 1));
    due(BEYOND, x.sheet(0, 64, 1));
    due(BEYOND, x.sheet(0, -8, 1));
    due(BEYOND, x.sheet(0, 7, -1));
    due(BEYOND, x.sheet(4, 8, -1));
    for (int wrong : WRONG) due(BEYOND, x.sheet(wrong, 8, 1));
    due(STATE, x.sheet(0, 8, -1));
    due(STATE, x.sheet(0, 32, Integer.MIN_VALUE));
    due(BEYOND, x.sheet(0, 16, 25));
    due(BEYOND, x.sheet(0, 16, Integer.MAX_VALUE));
    due(NONE, x.put(0, 0, 0));
    due(1, x.sheet(0, 8, 24));
    due(1, x.sheet(3, 32, 0));
    due(1, x.put(0, 23, 1));
    due(BEYOND, x.put(0, 24, 1));
    due(BEYOND, x.put(3, 0, 1));
    due(1, x.sheet(0, 0, -5));
    due(NONE, x.put(0, 0, 0));
    due(1, x.sheet(0, 0, 99));
    due(1, x.sheet(1, 16, 3));
    due(STATE, x.sheet(1, 16, -3));
    due(1, x.put(1, 2, 7));
    due(1, x.sheet(1, 16, 3));
    x.put(1, 1, 2);
    due(1, x.joins(1));
    due(2, x.across(0));
    due(0, x.joinIs(0, 2));
    x.put(1, 2, 1);
    due(1, x.sheet(1, 8, 3));
    x.put(1, 0, 1);
    x.put(1, 1, 3);
    due(1, x.joins(1));
    due(0, x.joinIs(1, 2));
    due(2, x.told(2));
  }

  private static void put() {
    TurnedLand x = land(1, 1);
    x.sheet(0, 8, 3);
    x.sheet(1, 16, 3);
    x.sheet(2, 32, 3);
    due(BEYOND, x.put(4, 0, 0));
    due(BEYOND, x.put(-1, 0, 0));
    due(NONE, x.put(3, 9, 0));
    due(BEYOND, x.put(0, 3, 0));
    due(BEYOND, x.put(0, -1, 0));
    for (int wrong : WRONG) due(BEYOND, x.put(0, wrong, 0));
    for (int wrong : WRONG) due(BEYOND, x.put(wrong, 0, 0));
    due(1, x.put(0, 0, 0x7F00 + 1));
    due(1, x.put(0, 1, -256 + 5));
    due(1, x.put(0, 2, 0x100));
    due(1, x.joins(0));
    due(5, x.across(1));
    due(1, x.put(1, 0, 0x7FFF0000 + 2));
    due(1, x.put(1, 1, 256 + 6));
    due(0, x.joins(1));
    due(1, x.put(1, 1, -65536 + 6));
    due(1, x.put(1, 2, 65536 + 1));
    due(1, x.joins(1));
    due(1, x.joinIs(1, 2));
    due(1, x.put(2, 0, 65536));
    due(1, x.put(2, 1, 7));
    due(0, x.joins(2));
    due(1, x.put(2, 0, 0));
    due(1, x.joins(2));
    due(7, x.across(0));
  }

  /** Reads a SHEET by the JOINS that its numbers make: EDGES 0, 4, 8, .. to 1, 5, 9, .. */
  private static void move() {
    TurnedLand x = land(1, 1, 1, 1);
    x.sheet(0, 8, 6);
    x.sheet(1, 8, 3);
    x.sheet(2, 16, 3);
    due(BEYOND, x.move(4, 0, 0, 0, 0));
    due(BEYOND, x.move(0, 0, 4, 0, 0));
    due(BEYOND, x.move(-1, 0, 3, 0, -1));
    due(NONE, x.move(0, 0, 3, 0, 1));
    due(NONE, x.move(3, 0, 2, 0, -1));
    due(NONE, x.move(3, 0, 3, 0, 0));
    due(KIND, x.move(0, 0, 2, 0, -1));
    due(KIND, x.move(2, 9, 0, 0, 1));
    due(BEYOND, x.move(0, 0, 1, 0, -1));
    due(BEYOND, x.move(0, -1, 1, 0, 1));
    due(BEYOND, x.move(0, 0, 1, -1, 1));
    due(BEYOND, x.move(0, 0, 1, 0, 4));
    due(BEYOND, x.move(1, 1, 0, 0, 3));
    due(BEYOND, x.move(0, 4, 0, 0, 3));
    due(BEYOND, x.move(0, 0, 1, Integer.MAX_VALUE, 2));
    due(BEYOND, x.move(0, Integer.MAX_VALUE, 1, 0, Integer.MAX_VALUE));
    due(BEYOND, x.move(0, 7, 1, 0, 0));
    due(0, x.move(0, 6, 1, 3, 0));
    due(3, x.move(0, 3, 0, 0, 3));
    int[] row = {0, 1, 0, 4, 5, 1};
    for (int i = 0; i < 6; i++) x.put(0, i, row[i]);
    due(3, x.move(0, 3, 1, 0, 3));
    due(1, x.joins(1));
    due(5, x.across(4));
    due(1, x.joinIs(0, 2));
    due(1, x.joins(0));
    due(2, x.count(1));
    int[] lap = {99, 8, 9, 1, 12, 0};
    for (int i = 0; i < 6; i++) x.put(0, i, lap[i]);
    due(5, x.move(0, 1, 0, 0, 5));
    due(1, x.joins(0));
    due(9, x.across(8));
    int[] up = {12, 13, 1, 2, 3, 0};
    for (int i = 0; i < 6; i++) x.put(0, i, up[i]);
    due(3, x.move(0, 0, 0, 1, 3));
    due(3, x.move(0, 1, 0, 0, 3));
    due(1, x.joins(0));
    due(13, x.across(12));
  }

  private static void joins() {
    TurnedLand x = land(1, 1, 1);
    due(BEYOND, x.joins(4));
    for (int wrong : WRONG) due(BEYOND, x.joins(wrong));
    due(NONE, x.joins(0));
    x.sheet(0, 32, 0);
    due(0, x.joins(0));
    x.sheet(0, 32, 11);
    int[] row = {0, 4, 0, 1, 5, 1, 2, 6, 0, 3, 7};
    for (int i = 0; i < row.length; i++) x.put(0, i, row[i]);
    due(3, x.joins(0));
    due(3, x.count(1));
    due(1, x.joinIs(1, 2));
    due(0, x.joins(0));
    due(0, x.told(3));
    x.put(0, 0, 3);
    x.put(0, 1, 7);
    x.put(0, 2, 1);
    due(1, x.joins(0));
    due(7, x.across(3));
    x.put(0, 0, 8);
    x.put(0, 1, 9);
    x.put(0, 2, 2);
    due(0, x.joins(0));
    due(4, x.told(1));
    due(1, x.told(2));
  }

  private static void image() {
    TurnedLand x = land(5);
    due(1, x.image());
    x.square(6);
    due(2, x.image());
    x.square(7);
    due(2, x.restore());
    due(3, x.image());
    x.square(7);
    due(2, x.restore());
    due(4, x.image());
  }

  /** All but SHEETS, THE TRACE and what told() tells is kept. */
  private static void imageAll() {
    TurnedLand x = pair();
    x.walk(1, 0, 14);
    x.set(0, 3, 77);
    x.person(0);
    x.cross(0, EAST);
    x.thing(1, 21, 0);
    x.doubt(2);
    x.fact(0, 1);
    text(x, 0, "c+d");
    text(x, 1, "w+1");
    feed(x, "d+c");
    tell(x, 0, 2, 1);
    x.seed(42);
    x.sheet(0, 8, 3);
    x.put(0, 0, 2);
    x.put(0, 1, 3);
    x.voice(0, 0, 0);
    due(1, x.image());
    x.cost(0, 9);
    x.turn(0, 1);
    x.part();
    x.join(2, 3, 0);
    x.square(1);
    x.set(0, 3, 1);
    x.set(0, 0, 0);
    x.walk(0, 2, 0);
    x.cross(0, WEST);
    x.person(0);
    x.thing(0, 1, 1);
    x.doubt(1);
    x.forget();
    x.fact(1, 0);
    x.fact(1, 1);
    x.text(1);
    due(1, text(x, 0, "1"));
    due(1, text(x, 1, "2"));
    x.untell(1);
    feed(x, "!!!!");
    x.check(0);
    tell(x, 9, 9, 9, 9);
    x.seed(43);
    x.put(0, 2, 1);
    x.voice(0, 1, 0);
    due(STATE, x.cross(0, NORTH));
    due(2, x.restore());
    int[] counts = {2, 2, 1, 1, 1, 1, 3, 3, 2, 42, 2};
    for (int what = 0; what <= 10; what++) due(counts[what], x.count(what));
    due(1, x.agree());
    x.turn(1, 0);
    due(1, x.agree());
    due(2, x.doubt(0));
    due(0, x.agree());
    x.turn(1, 1);
    due(1, x.agree());
    due(0, x.joinIs(0, 2));
    due(1, x.joinIs(1, 0));
    due(7, x.joinIs(1, 1));
    due(7, x.across(1));
    due(NONE, x.across(2));
    due(77, x.walkIs(0, 3));
    due(1, x.walkIs(0, 0));
    due(2, x.personIs(0, 0));
    due(5, x.personIs(0, 1));
    due(22, x.thingIs(0, 3));
    due(12, x.soonest(0, 2));
    due(0, x.check(0));
    due(1, x.text(0));
    due(5, x.cost(0, 5));
    due(11, x.body(0));
    due(2, x.told(3));
    due(1, x.joins(0));
    due(1, x.joinIs(2, 2));
    due(2, x.restore());
    due(2, x.count(1));
    due(3, x.count(7));
  }

  private static void restore() {
    TurnedLand x = new TurnedLand();
    due(NONE, x.restore());
    x.image();
    x.square(1);
    due(0, x.restore());
    due(0, x.count(0));
    due(0, x.restore());
    due(BEYOND, x.reached(0));
    due(1, x.told(2));
    due(1, x.told(1));
    due(0, x.square(3));
    x.join(0, 1, 1);
    x.image();
    x.part();
    x.restore();
    due(1, x.across(0));
    x.restore();
    x.image();
    x.square(1);
    due(1, x.restore());
  }

  private static void tell() {
    TurnedLand x = new TurnedLand();
    for (int i = 1; i <= 24; i++) due(i, x.tell(i % 2 == 0 ? BEYOND : Integer.MAX_VALUE));
    due(FULL, x.tell(0));
    due(24, x.count(7));
    due(1, x.told(4));
    due(BEYOND, x.check(0));
    due(1, x.tell(0));
  }

  private static void check() {
    TurnedLand x = pair();
    x.walk(0, 0, 14);
    x.walk(0, 1, 0);
    x.walk(0, 0, 3);
    due(1, x.check(0));
    tell(x, 0, 2, 1);
    due(0, x.check(0));
    due(0, x.count(7));
    tell(x, 0, 2, 0);
    due(3, x.check(0));
    tell(x, 1, 2, 0);
    due(1, x.check(0));
    tell(x, 0, 3, 9);
    due(2, x.check(0));
    tell(x, 0, 2);
    due(3, x.check(0));
    tell(x, 0, 2, 1, 1);
    due(4, x.check(0));
    tell(x, 2);
    due(0, x.check(1));
    tell(x, 2, 2);
    due(2, x.check(1));
    for (int i = 0; i < 24; i++) x.tell(2);
    due(2, x.check(1));
    tell(x, 0);
    due(STATE, x.check(2));
    due(0, x.count(7));
    tell(x, 0);
    due(BEYOND, x.check(3));
    due(0, x.count(7));
    for (int wrong : WRONG) due(BEYOND, x.check(wrong));
    due(1, x.told(3));
  }

  private static void count() {
    TurnedLand x = pair();
    x.square(3);
    x.join(2, 3, 0);
    for (int i = 0; i < 4; i++) x.walk(0, 0, 0);
    for (int i = 0; i < 5; i++) x.person(0);
    for (int i = 0; i < 6; i++) x.thing(0, 1, 0);
    for (int i = 0; i < 7; i++) x.fact(0, 0);
    x.feed(0, 8);
    for (int i = 0; i < 9; i++) x.tell(0);
    x.voice(0, 1, 0);
    x.seed(-7);
    x.doubt(5);
    int[] want = {3, 3, 4, 5, 6, 7, 8, 9, 2, -7, 5};
    for (int what = 0; what <= 10; what++) due(want[what], x.count(what));
    due(BEYOND, x.count(11));
    for (int wrong : WRONG) due(BEYOND, x.count(wrong));
    x.seed(NONE);
    due(NONE, x.count(9));
    due(0, x.told(2));
  }

  private static void told() {
    TurnedLand x = land(1);
    x.join(0, 1, 0);
    x.walk(0, 0, 0);
    due(BEYOND, x.told(0));
    due(1, x.told(1));
    due(BEYOND, x.told(7));
    for (int wrong : WRONG) due(BEYOND, x.told(wrong));
    due(5, x.told(1));
    x.across(2);
    x.across(3);
    due(2, x.told(2));
    x.join(0, 1, 0);
    due(1, x.told(3));
    for (int i = 0; i < 8; i++) x.square(1);
    due(1, x.told(4));
    x.as(0, 3);
    x.as(0, 2);
    x.as(0, 6);
    due(3, x.told(5));
    x.voice(0, 3, 1);
    due(1, x.told(6));
    due(5, x.told(1));
    x.text(0);
    due(5, x.told(1));
    x.image();
    x.cost(0, 0);
    x.restore();
    due(6, x.told(1));
    due(6, x.told(1));
  }
}
