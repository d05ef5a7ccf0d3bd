import java.util.ArrayList;
import java.util.List;

/** Boundary cases of promises 44 to 49, of the limit of 512 calls, and of what the Terms say of ERRORS. */
final class ImageBounds extends Bounds {
  private ImageBounds() {
  }

  static void all() {
    image();
    imageOfAll();
    imageLeavesOut();
    restore();
    tell();
    checkNumbers();
    checkFirstUnlike();
    checkRefused();
    count();
    countRefused();
    told();
    toldOfEach();
    errors();
    asking();
    quotients();
    calls();
    lastCall();
  }

  private static void image() {
    says(44, "All (but SHEETS, THE TRACE, what told() tells, and how often this was done) is kept as an IMAGE,"
        + " in place of one ahead: how often that was done.");
    TurnedLand x = new TurnedLand();
    for (int i = 1; i <= 5; i++) due("IMAGE " + i + " of nothing", i, x.image());
    due("what was in place of others", 0, x.restore());
    due("how often isn't restored", 6, x.image());
    due("of some, behind one", 2, Bounds::some, y -> y.image());
    due("of a full land, behind one", 2, Bounds::full, y -> y.image());
    due("told() tells nothing of it", 0, Bounds::nothing, y -> y.image() == 1 ? y.told(1) + y.told(2) + y.told(3) + y.told(4) : -1);
    TurnedLand two = land(1);
    two.image();
    two.square(1);
    two.image();
    two.square(1);
    due("the later IMAGE", 2, two.restore());
    due("it stays", 2, two.restore());
  }

  private static void dueAlike(String about, Acts one, Acts other) {
    int number = 0;
    for (Looks.Look look : Looks.ALL) {
      List<Integer> seen = Looks.seen(look, landOf(one));
      TALLY.is(about + ", look " + number, seen.equals(Looks.seen(look, landOf(other))));
      number++;
    }
  }

  /** All that may change does so between image() and restore(); behind restore() no call tells a difference. */
  private static void imageOfAll() {
    dueAlike("a full land behind image(), changes, restore()", x -> {
      full(x);
      x.image();
    }, x -> {
      full(x);
      x.image();
      for (int s = 0; s < 8; s++) x.cost(s, 99 - s);
      for (int j = 0; j < 6; j++) x.part();
      for (int j = 10; j < 16; j += 2) x.join(31 - j, 30 - j, 1);
      for (int j = 0; j < 10; j++) x.turn(j, 1 - j % 2);
      for (int w = 0; w < 10; w++) {
        x.set(w, 0, (w + 1) % 7);
        x.set(w, 3, w);
      }
      for (int p = 0; p < 6; p++) x.stroll(p, 3);
      x.forget();
      x.fact(3, 1);
      x.doubt(1);
      x.text(0);
      x.untell(1);
      feed(x, "1+1");
      x.check(0);
      x.tell(5);
      x.seed(77);
      x.restore();
    });
    dueAlike("some behind image(), more of all, restore()", x -> {
      some(x);
      x.image();
    }, x -> {
      some(x);
      x.image();
      for (int s = 0; s < 3; s++) x.square(1);
      x.join(1, 19, 1);
      x.join(5, 31, 0);
      x.walk(6, 7, 12);
      x.person(15);
      x.thing(15, 5, 1);
      x.fact(4, 0);
      x.doubt(63);
      x.text(0);
      text(x, 0, "d*3+77");
      text(x, 1, "s*9+1");
      feed(x, "8");
      x.tell(3);
      x.cross(2, EAST);
      x.restore();
    });
    dueAlike("a new land behind image(), all of all, restore()", x -> {
      x.image();
      sheetsAndTrace(x);
    }, x -> {
      x.image();
      for (int s = 0; s < 8; s++) x.square(9);
      for (int j = 0; j < 16; j++) x.join(j, 31 - j, 1);
      for (int w = 0; w < 10; w++) x.walk(w % 7, 7, 11111111);
      for (int p = 0; p < 6; p++) x.person(15);
      for (int t = 0; t < 6; t++) x.thing(15, 9999, 1);
      for (int f = 0; f < 12; f++) x.fact(9, 1);
      x.doubt(63);
      for (int i = 0; i < 24; i++) x.tell(i);
      text(x, 0, "9");
      text(x, 1, "9");
      feed(x, "1".repeat(60));
      x.seed(5);
      x.restore();
      sheetsAndTrace(x);
    });
  }

  /** What an IMAGE doesn't keep is brought to one state. */
  private static void sheetsAndTrace(TurnedLand x) {
    fill(x, 0, 8, 1, 2, 0);
    x.square(1);
    x.walk(0, 0, 0);
    x.voice(0, 1, 5);
  }

  private static void imageLeavesOut() {
    says(44, "All (but SHEETS, THE TRACE, what told() tells, and how often this was done) is kept as an IMAGE,"
        + " in place of one ahead: how often that was done.");
    TurnedLand x = land(1, 1);
    x.walk(0, 0, 0);
    fill(x, 0, 8, 0, 4, 1);
    x.sheet(1, 16, 24);
    x.voice(0, 0, 5);
    x.square(0);
    x.image();
    x.put(0, 1, 5);
    x.put(0, 2, 0);
    x.sheet(1, 0, 0);
    x.sheet(2, 32, 3);
    x.voice(0, 1, 5);
    x.square(0);
    x.across(0);
    x.restore();
    due("BODIES in THE TRACE as they were ahead of restore()", 2, x.count(8));
    due("the first of them", 11, x.body(0));
    due("told(1) as ahead of restore()", 2, x.told(1));
    due("told(2) as ahead of restore()", 1, x.told(2));
    due("a SHEET that was and is missing", NONE, x.put(1, 0, 0));
    due("a SHEET that was missing and is there", 1, x.put(2, 2, 0));
    due("numbers as they were put", 1, x.joins(0));
    due("the EDGE put", 5, x.across(0));
    due("STRAIGHT as put", 0, x.joinIs(0, 2));
    due("how often", 2, x.image());
  }

  private static void restore() {
    says(45, "All is as the IMAGE has it, which stays: how many SQUARES there are.");
    for (int n = 0; n <= 8; n += 4) {
      int many = n;
      due("an IMAGE of " + n + " SQUARES", n, x -> {
        for (int s = 0; s < many; s++) x.square(1);
        x.image();
        for (int s = many; s < 8; s++) x.square(1);
      }, x -> x.restore());
    }
    TurnedLand x = land(1, 1);
    x.image();
    for (int i = 0; i < 3; i++) {
      due("SQUARE behind restore() " + i, 2, x.square(9));
      due("restore() " + i, 2, x.restore());
    }
    due("nothing between", 2, x.restore());
    says(45, "NONE: there is none.");
    refused("none yet", NONE, Bounds::nothing, y -> y.restore());
    refused("SQUARES, but no IMAGE", NONE, Bounds::threeBands, y -> y.restore());
    refused("much, but no IMAGE", NONE, Bounds::neverKept, y -> y.restore());
    due("an IMAGE of nothing is one", 0, Bounds::nothing, y -> y.image() == 1 ? y.restore() : -1);
  }

  private static void tell() {
    says(46, "One more number waits: how many.");
    TurnedLand x = new TurnedLand();
    int[] numbers = {0, -1, MAX, MIN, BEYOND, FULL};
    for (int i = 1; i <= 24; i++) due("number " + i, i, x.tell(numbers[i % 6]));
    for (int k = 1; k <= 6; k++) due("told(" + k + ") of numbers", 0, x.told(k));
    says(46, "FULL: 24 wait.");
    due("the 24th", 24, y -> {
      for (int i = 0; i < 23; i++) y.tell(i);
    }, y -> y.tell(MIN));
    for (int v : new int[] {0, -1, MIN, MAX}) refused("a 25th, " + v, FULL, Bounds::full, y -> y.tell(v));
    refused("a 25th in a land without SQUARES", FULL, y -> {
      for (int i = 0; i < 24; i++) y.tell(i);
    }, y -> y.tell(0));
    due("how many behind it", 24, Bounds::full, y -> y.tell(0) == FULL ? y.count(7) : -1);
    due("the first again behind check()", 1, Bounds::full, y -> y.check(0) >= 0 ? y.tell(7) : -1);
  }

  /** WALKS of 0 .. 8 EDGES along a row: the places are 0, 2, 4, .. */
  private static void row(TurnedLand x) {
    for (int s = 0; s < 8; s++) x.square(1);
    for (int s = 0; s < 7; s++) x.join(edge(s, EAST), edge(s + 1, WEST), STRAIGHT);
    x.join(edge(7, EAST), edge(7, NORTH), TURNED);
    for (int n = 0; n <= 8; n++) x.walk(0, 0, n == 0 ? 0 : Integer.parseInt("1".repeat(n)));
  }

  private static int place(int i) {
    return i < 8 ? 2 * i : 15;
  }

  private static void checkNumbers() {
    says(47, "The numbers that wait (none do then) are the places by which a WALK goes with HAND 0, its begin first: 0; else 1 and"
        + " the place of the first that isn't so (one that lacks, or is too many, too).");
    for (int n = 0; n <= 8; n++) {
      for (int told = 0; told <= 24; told += told == n + 2 ? 21 - n : 1) {
        TurnedLand x = landOf(ImageBounds::row);
        for (int i = 0; i < told; i++) x.tell(i <= n ? place(i) : 0);
        int want = told == n + 1 ? 0 : 1 + Math.min(told, n + 1);
        due(told + " numbers of a WALK of " + n + " EDGES", want, x.check(n));
        due("none wait then", 0, x.count(7));
      }
    }
  }

  private static void checkFirstUnlike() {
    for (int n = 0; n <= 8; n++) {
      for (int at = 0; at <= n; at++) {
        for (int wrong : new int[] {place(at) ^ 1, place(at) + 16, -1, MIN, MAX}) {
          TurnedLand x = landOf(ImageBounds::row);
          for (int i = 0; i <= n; i++) x.tell(i == at ? wrong : place(i));
          due("number " + at + " of a WALK of " + n + " EDGES is " + wrong, 1 + at, x.check(n));
          due("none wait then", 0, x.count(7));
        }
      }
    }
    TurnedLand x = landOf(ImageBounds::row);
    for (int i = 0; i <= 8; i++) x.tell(i < 3 ? place(i) : 99);
    due("the first of several", 4, x.check(8));
    due("no numbers of a WALK of eight", 1, x.check(8));
    tell(x, 1);
    due("its begin with HAND 1", 1, x.check(0));
    due("told() tells nothing of it", 0, x.told(1) + x.told(2) + x.told(3) + x.told(4) + x.told(5) + x.told(6));
  }

  /** A refused check(): the numbers wait no more, all else is as it was. */
  private static void refusedButNumbers(String about, int error, Acts ahead, Asks asked) {
    due(about, error, ahead, asked);
    due(about + ": none wait then", 0, ahead, x -> asked.of(x) == error ? x.count(7) : -1);
    for (int k = 1; k <= 6; k++) {
      int of = k;
      int want = landOf(ahead).told(k) + (LOW - k == error ? 1 : 0);
      due(about + ", told(" + k + ")", want, ahead, x -> asked.of(x) == error ? x.told(of) : -1);
    }
    int number = 0;
    for (Looks.Look look : Looks.ALL) {
      TurnedLand one = landOf(ahead);
      asked.of(one);
      one.tell(4);
      TurnedLand other = landOf(ahead);
      other.check(0);
      other.tell(4);
      TALLY.is(about + ": something but the numbers has changed, look " + number,
          Looks.seen(look, one).equals(Looks.seen(look, other)));
      number++;
    }
  }

  private static void checkRefused() {
    says(47, "BEYOND, STATE as of gone() (none wait then, too).");
    for (int w : new int[] {-1, 10, MIN, MAX}) {
      refusedButNumbers("WALK " + w, BEYOND, Bounds::full, x -> x.check(w));
      refusedButNumbers("WALK " + w + ", some numbers", BEYOND, Bounds::some, x -> x.check(w));
      due("WALK " + w + " of a new land", BEYOND, Bounds::nothing, x -> x.check(w));
    }
    refusedButNumbers("WALK 4 of four", BEYOND, Bounds::some, x -> x.check(4));
    refusedButNumbers("the only EDGE is RIM", STATE, Bounds::some, x -> x.check(3));
    for (int edges : new int[] {41111111, 11111114, 4}) {
      refusedButNumbers("it can't be gone: " + edges, STATE, x -> {
        some(x);
        x.walk(0, 0, edges);
      }, x -> x.check(4));
    }
    due("no numbers, it can't be gone", STATE, Bounds::some, x -> x.check(0) >= 0 ? x.check(3) : -1);
    due("no numbers, no such WALK", BEYOND, Bounds::nothing, x -> x.check(0));
  }

  private static void count() {
    says(48, "0 SQUARES, 1 JOINS, 2 WALKS, 3 PEOPLE, 4 THINGS, 5 FACTS, 6 bytes of THE TAPE, 7 numbers that wait,"
        + " 8 BODIES in THE TRACE, 9 z (any number), 10 JOINS in DOUBT as bits.");
    int[] none = {0, 0, 0, 0, 0, 0, 0, 0, 0, 1, 0};
    int[] some = {5, 4, 4, 3, 2, 2, 5, 2, 6, 0, 5};
    int[] full = {8, 16, 10, 6, 6, 12, 60, 24, 14, 1, 0xFC00};
    int z = 99;
    for (int i = 0; i < 5; i++) z = z * 1103515245 + 12345;
    some[9] = z;
    for (int what = 0; what <= 10; what++) {
      due("what " + what + ", nothing there", none[what], new TurnedLand().count(what));
      due("what " + what + ", some", some[what], landOf(Bounds::some).count(what));
      due("what " + what + ", full", full[what], landOf(Bounds::full).count(what));
    }
    for (int v : new int[] {MIN, MAX, 0, -1, BEYOND, PARTED}) {
      due("z " + v, v, x -> x.seed(v), x -> x.count(9));
      due("told(1) of z " + v, 0, x -> x.seed(v), x -> x.count(9) == v ? x.told(1) : -1);
    }
  }

  private static void countRefused() {
    says(48, "BEYOND.");
    for (int what : new int[] {-1, 11}) refusedEverywhere("what " + what, BEYOND, x -> x.count(what));
    for (int what : new int[] {MIN, MAX}) refused("what " + what, BEYOND, Bounds::some, x -> x.count(what));
  }

  private static void told() {
    says(49, "How many acts have answered an ERROR LOW - k (k 1 .. 6);");
    TurnedLand x = land(1);
    for (int n = 1; n <= 3; n++) {
      x.square(0);
      x.across(0);
      x.part();
      x.walk(0, 0, 0);
      x.as(0, 1);
      x.voice(0, 3, 1);
      int[] want = {n, n, n, 0, n, n};
      for (int k = 1; k <= 6; k++) due("told(" + k + ") behind " + n, want[k - 1], x.told(k));
    }
    for (int i = 0; i < 7; i++) x.square(1);
    for (int n = 1; n <= 3; n++) {
      due("a refused SQUARE", FULL, x.square(1));
      due("told(4) behind it", n, x.told(4));
    }
    due("told() of a k that is told isn't counted", 3, x.told(1));
    says(49, "BEYOND: another k (counted, too).");
    TurnedLand y = new TurnedLand();
    int[] others = {0, 7, -1, 8, MIN, MAX, -LOW, BEYOND};
    for (int i = 0; i < others.length; i++) {
      due("k " + others[i], BEYOND, y.told(others[i]));
      due("told(1) behind it", i + 1, y.told(1));
    }
    for (int k : new int[] {0, 7}) refusedEverywhere("k " + k, BEYOND, z -> z.told(k));
  }

  /** Each ERROR is counted at its own k, whichever act answers it. */
  private static void toldOfEach() {
    says(49, "How many acts have answered an ERROR LOW - k (k 1 .. 6);");
    counted(1, x -> x.square(0), x -> x.cost(-1, 1), x -> x.join(0, 0, 0), x -> x.joinIs(-1, 0), x -> x.turn(-1, 0),
        x -> x.across(-1), x -> x.land(6), x -> x.feed(0, 0), x -> x.text(2), x -> x.untell(2), x -> x.soonest(-1, 0),
        x -> x.reached(-1), x -> x.first(-1, 0), x -> x.walk(7, 0, 0), x -> x.walkIs(-1, 0), x -> x.as(-1, 0),
        x -> x.set(-1, 0, 0), x -> x.gone(-1, 0, 0), x -> x.stops(-1), x -> x.person(-1), x -> x.personIs(-1, 0),
        x -> x.cross(-1, 0), x -> x.stroll(-1, 1), x -> x.meet(0, 0, 0), x -> x.thing(-1, 1, 0), x -> x.thingIs(-1, 0),
        x -> x.bring(-1), x -> x.doubt(-1), x -> x.fact(-1, 0), x -> x.known(-1), x -> x.voice(-1, 0, 0),
        x -> x.sheet(4, 8, 1), x -> x.put(4, 0, 0), x -> x.move(4, 0, 0, 0, 0), x -> x.joins(4), x -> x.check(-1),
        x -> x.count(11), x -> x.told(7));
    counted(2, x -> x.across(1), x -> x.soonest(0, 8), x -> x.first(0, 0), x -> x.stops(1), x -> x.meet(0, 1, 1),
        x -> x.body(-1), x -> x.put(3, 0, 0), x -> x.move(3, 0, 0, 0, 0), x -> x.joins(3));
    counted(3, x -> x.join(0, 1, 0), x -> x.gone(3, 0, 0), x -> x.cross(2, 1), x -> x.sheet(0, 8, -1), x -> x.check(3));
    counted(5, x -> x.as(0, 2), x -> x.move(0, 0, 1, 0, 0));
  }

  private static void counted(int k, Asks... acts) {
    for (int i = 0; i < acts.length; i++) {
      TurnedLand x = landOf(Bounds::some);
      int was = x.told(k);
      due("act " + i + " that answers LOW - " + k, LOW - k, acts[i].of(x));
      due("told(" + k + ") of act " + i, was + 1, x.told(k));
    }
  }

  private static void errors() {
    term(0, "ERRORS are answers below -1000000: LOW is -1000000; LOW - 1 BEYOND, LOW - 2 NONE, LOW - 3 STATE, LOW - 4 FULL,"
        + " LOW - 5 KIND, LOW - 6 PARTED.", "Each act tells its ERRORS in the order in which they are asked; one that answers an"
        + " ERROR changes nothing but what told() tells, or where told.");
    due("BEYOND", -1000001, new TurnedLand().square(0));
    due("NONE", -1000002, new TurnedLand().restore());
    due("STATE", -1000003, new TurnedLand().part());
    due("FULL", -1000004, landOf(Bounds::full).square(1));
    due("KIND", -1000005, landOf(Bounds::some).as(0, 2));
    due("PARTED", -1000006, x -> {
      x.square(1);
      x.walk(0, 0, 0);
    }, x -> x.voice(0, 3, 1));
  }

  /** Calls that only ask, answered and refused: what they answer leaves nothing behind. */
  private static void asking() {
    List<Asks> asks = new ArrayList<>();
    for (int i = 0; i < 6; i++) {
      int k = i;
      asks.add(x -> x.joinIs(k, k % 3));
      asks.add(x -> x.across(5 * k));
      asks.add(x -> x.land(k));
      asks.add(x -> x.plain());
      asks.add(x -> x.soonest(k, 7 - k));
      asks.add(x -> x.reached(k));
      asks.add(x -> x.first(7 - k, k));
      asks.add(x -> x.walkIs(k, 4));
      asks.add(x -> x.as(k, 1));
      asks.add(x -> x.gone(k, k % 2, k % 3));
      asks.add(x -> x.stops(k));
      asks.add(x -> x.personIs(k, k % 2));
      asks.add(x -> x.meet(k, 2, k % 3));
      asks.add(x -> x.thingIs(k, k % 5));
      asks.add(x -> x.bring(k));
      asks.add(x -> x.agree());
      asks.add(x -> x.known(k));
      asks.add(x -> x.test());
      asks.add(x -> x.body(k));
      asks.add(x -> x.count(2 * k));
      asks.add(x -> x.told(1 + k));
    }
    for (Asks ask : asks) {
      changesNothing("a call that only asks", Bounds::some, ask);
      changesNothing("a call that only asks", Bounds::full, ask);
    }
  }

  private static void quotients() {
    term(0, "Quotients are cut toward 0.");
    TurnedLand x = land(1);
    x.walk(3, 0, 11);
    x.walk(0, 0, 111);
    x.walk(0, 0, 0);
    due("-3 / 2 of ODD", (-1 - 7) * 2 - 2, x.voice(0, 2, -3));
    due("3 / 2 of ODD", (1 - 7) * 2 - 2, x.voice(0, 2, 3));
    due("-3 by 2 of WALK", -1, x.voice(1, 3, -3));
    due("3 by -2 of WALK", -1, x.voice(2, 3, 3));
    due("-3 by -2 of WALK", 1, x.voice(2, 3, -3));
    x.thing(0, 3, 0);
    due("3 by 2 of a PRICE", 1, x.thingIs(0, 4));
    text(x, 1, "(0-3)/2+9");
    due("-3 / 2 of a TEXT", 8, x.thingIs(0, 3));
  }

  private static void calls() {
    saysPart("What it is", "An object is used for at most 512 calls after it has been made; what later calls answer is free.");
    TurnedLand images = new TurnedLand();
    for (int i = 1; i <= 512; i++) due("image() of call " + i, i, images.image());
    TurnedLand told = new TurnedLand();
    for (int i = 1; i <= 511; i++) due("told(0) of call " + i, BEYOND, told.told(0));
    due("told(1) as the 512th call", 511, told.told(1));
    TurnedLand mix = land(1);
    mix.join(EAST, WEST, TURNED);
    mix.person(0);
    for (int i = 1; i <= 508; i++) due("cross() of call " + (i + 3), i % 2, mix.cross(0, EAST));
    due("HOURS as the 512th call", 508, mix.personIs(0, 1));
    TurnedLand draws = land(1);
    draws.person(0);
    int z = 1;
    for (int i = 3; i <= 511; i++) {
      draws.stroll(0, 60);
      for (int d = 0; d < 60; d++) z = z * 1103515245 + 12345;
    }
    due("z as the 512th call", z, draws.count(9));
  }

  /** The 512th call answers as any other one: of each act, behind 511 that change nothing. */
  private static void lastCall() {
    List<Asks> acts = new ArrayList<>(List.of(x -> x.square(3), x -> x.part(), x -> x.land(0), x -> x.plain(),
        x -> x.feed(-1, 3), x -> x.text(0), x -> x.soonest(0, 3), x -> x.walk(0, 0, 1), x -> x.gone(1, 0, 0)));
    acts.addAll(List.of(x -> x.stroll(1, 60), x -> x.meet(0, 2, 1), x -> x.bring(2), x -> x.agree(), x -> x.known(0),
        x -> x.test(), x -> x.voice(1, 3, 9), x -> x.joins(1), x -> x.restore(), x -> x.check(0)));
    for (Asks act : acts) {
      TurnedLand late = landOf(Bounds::some);
      for (int i = CALLS_OF_SOME; i < 511; i++) late.count(0);
      due("the 512th call", act.of(landOf(Bounds::some)), act.of(late));
    }
  }
}
