import java.util.Arrays;

/** A land of squares whose edges are joined, straight or turned: see ../shared/DOC.md. */
public final class TurnedLand {
  private static final int LOW = -1000000;
  private static final int BEYOND = 1;
  private static final int NONE = 2;
  private static final int STATE = 3;
  private static final int FULL = 4;
  private static final int KIND = 5;
  private static final int PARTED = 6;
  private static final int ERRORS = 6;

  private static final int SIDES = 4;
  private static final int MOST_SQUARES = 8;
  private static final int MOST_PLACES = 2 * MOST_SQUARES;
  private static final int MOST_EDGES = SIDES * MOST_SQUARES;
  private static final int MOST_JOINS = 16;
  private static final int MOST_WALKS = 10;
  private static final int MOST_STEPS = 8;
  private static final int MOST_PEOPLE = 6;
  private static final int MOST_THINGS = 6;
  private static final int MOST_FACTS = 12;
  private static final int MOST_DOUBTED = 6;
  private static final int MOST_BYTES = 60;
  private static final int MOST_OPEN = 5;
  private static final int MOST_DIGITS = 4;
  private static final int MOST_WAITING = 24;
  private static final int MOST_STROLLED = 60;
  private static final int MOST_TRACED = 30;
  private static final int MOST_COST = 99;
  private static final int MOST_WORTH = 9999;
  private static final int MOST_MARK = 9999;
  private static final int MOST_CROSSING = 999;
  private static final int MOST_HOURS = 999999;
  private static final int SHEETS = 4;
  private static final int MOST_NUMBERS = 24;

  /** What stands for an EDGE, a JOIN or a place where there is none. */
  private static final int RIM = -1;

  private static final int WALK = 0;
  private static final int ROUND = 1;
  private static final int EVEN = 2;
  private static final int ODD = 3;
  private static final int PAIR = 4;
  private static final int TOLD = 5;
  private static final int WHOLE = 6;
  private static final int KINDS = 7;
  private static final int[] KIND_ABOVE = {-1, WALK, ROUND, ROUND, WALK, WALK, EVEN};

  private static final int HOURS_USE = 0;
  private static final int PRICE_USE = 1;

  private final World now = new World();
  private final World kept = new World();
  private int images = 0;
  private final int[] refused = new int[ERRORS + 1];
  private final int[] sheetBits = new int[SHEETS];
  private final int[] sheetSize = new int[SHEETS];
  private final int[][] sheetRow = new int[SHEETS][MOST_NUMBERS];
  private final Shape shape = new Shape();
  private final Ways ways = new Ways();
  private final Ways otherWays = new Ways();
  private final Walker walker = new Walker();
  private final Reader reader = new Reader();
  private final Voices voices = new Voices();

  public TurnedLand() {
  }

  // ---- the land

  public int square(int cost) {
    Ground ground = now.ground;
    if (!within(cost, 1, MOST_COST)) return refuse(BEYOND);
    if (ground.squares >= MOST_SQUARES) return refuse(FULL);
    ground.costs[ground.squares] = cost;
    return ground.squares++;
  }

  public int cost(int square, int v) {
    Ground ground = now.ground;
    if (!ground.hasSquare(square) || !within(v, 1, MOST_COST)) return refuse(BEYOND);
    int was = ground.costs[square];
    ground.costs[square] = v;
    return was;
  }

  public int join(int one, int other, int turned) {
    int error = now.ground.joinError(one, other, turned);
    if (error != 0) return refuse(error);
    return now.ground.addJoin(one, other, turned);
  }

  public int joinIs(int join, int what) {
    Ground ground = now.ground;
    if (!ground.hasJoin(join) || !within(what, 0, 2)) return refuse(BEYOND);
    return what == 2 ? ground.turned[join] : ground.ends[2 * join + what];
  }

  public int turn(int join, int v) {
    Ground ground = now.ground;
    if (!ground.hasJoin(join) || !within(v, 0, 1)) return refuse(BEYOND);
    int was = ground.turned[join];
    ground.turned[join] = v;
    return was;
  }

  public int part() {
    Ground ground = now.ground;
    if (ground.joins == 0) return refuse(STATE);
    ground.takeOffLatest();
    now.doubts.joins &= ~(1 << ground.joins);
    return ground.joins;
  }

  public int across(int edge) {
    if (!now.ground.hasEdge(edge)) return refuse(BEYOND);
    int other = now.ground.otherEdge(edge);
    return other == RIM ? refuse(NONE) : other;
  }

  public int land(int what) {
    Ground ground = now.ground;
    switch (what) {
      case 0: return shape.corners(ground);
      case 1: return edgesOnce(ground);
      case 2: return shape.corners(ground) - edgesOnce(ground) + ground.squares;
      case 3: return shape.parts(ground);
      case 4: return shape.rims(ground);
      case 5: return shape.turnsHome(ground, 0) ? 1 : 0;
      default: return refuse(BEYOND);
    }
  }

  public int plain() {
    int least = shape.leastCuts(now.ground);
    return least < 0 ? refuse(NONE) : least;
  }

  // ---- texts

  public int feed(long word, int n) {
    if (!within(n, 1, 8)) return refuse(BEYOND);
    if (now.taped + n > MOST_BYTES) return refuse(FULL);
    for (int i = 0; i < n; i++) {
      now.tape[now.taped] = (int) (word >>> (8 * i)) & 255;
      now.taped++;
    }
    return now.taped;
  }

  public int text(int use) {
    if (!within(use, HOURS_USE, PRICE_USE)) return refuse(BEYOND);
    boolean isText = reader.read(now.tape, now.taped, use);
    now.taped = 0;
    if (!isText) return -10 - reader.at;
    textOf(use).takeFrom(reader);
    return 1;
  }

  public int untell(int use) {
    if (!within(use, HOURS_USE, PRICE_USE)) return refuse(BEYOND);
    Text text = textOf(use);
    boolean was = text.isThere;
    text.isThere = false;
    return was ? 1 : 0;
  }

  // ---- ways

  public int soonest(int from, int to) {
    if (!now.ground.hasPlace(from) || !now.ground.hasPlace(to)) return refuse(BEYOND);
    ways.survey(now);
    ways.spread(from);
    return ways.least[to] < 0 ? refuse(NONE) : ways.least[to];
  }

  public int reached(int from) {
    if (!now.ground.hasPlace(from)) return refuse(BEYOND);
    ways.survey(now);
    ways.spread(from);
    int bits = 0;
    for (int place = 0; place < MOST_PLACES; place++) {
      if (ways.least[place] >= 0) bits |= 1 << place;
    }
    return bits;
  }

  public int first(int from, int to) {
    if (!now.ground.hasPlace(from) || !now.ground.hasPlace(to)) return refuse(BEYOND);
    ways.survey(now);
    ways.spread(from);
    for (int edge = 0; edge < SIDES; edge++) {
      if ((ways.firsts[to] >> edge & 1) == 1) return edge;
    }
    return refuse(NONE);
  }

  // ---- walks

  public int walk(int kind, int square, int edges) {
    Walks walks = now.walks;
    int steps = Walks.stepsOf(edges);
    if (!within(kind, 0, KINDS - 1) || !now.ground.hasSquare(square) || steps < 0) return refuse(BEYOND);
    if (walks.size >= MOST_WALKS) return refuse(FULL);
    return walks.add(kind, square, edges);
  }

  public int walkIs(int walk, int what) {
    Walks walks = now.walks;
    if (!walks.has(walk)) return refuse(BEYOND);
    switch (what) {
      case 0: return walks.kinds[walk];
      case 1: return walks.begins[walk];
      case 2: return walks.steps[walk];
      case 3: return walks.marks[walk];
      case 4: return walker.isSo(now, walk) ? 1 : 0;
      default: return refuse(BEYOND);
    }
  }

  public int as(int walk, int kind) {
    Walks walks = now.walks;
    if (!walks.has(walk) || !within(kind, 0, KINDS - 1)) return refuse(BEYOND);
    if (!isUnder(walks.kinds[walk], kind)) return refuse(KIND);
    return walks.steps[walk];
  }

  public int set(int walk, int what, int v) {
    Walks walks = now.walks;
    if (!walks.has(walk)) return refuse(BEYOND);
    int was;
    if (what == 0 && within(v, 0, KINDS - 1)) {
      was = walks.kinds[walk];
      walks.kinds[walk] = v;
    } else if (what == 3 && within(v, -1, MOST_MARK)) {
      was = walks.marks[walk];
      walks.marks[walk] = v;
    } else {
      return refuse(BEYOND);
    }
    return was;
  }

  public int gone(int walk, int hand, int what) {
    if (!now.walks.has(walk) || !within(hand, 0, 1) || !within(what, 0, 2)) return refuse(BEYOND);
    if (!walker.goes(now, walk, hand)) return refuse(STATE);
    if (what == 0) return walker.end();
    return what == 1 ? walker.hours(now, walk) : walker.turns();
  }

  public int stops(int walk) {
    if (!now.walks.has(walk)) return refuse(BEYOND);
    return walker.goes(now, walk, 0) ? refuse(NONE) : walker.crossed;
  }

  // ---- people, things

  public int person(int place) {
    Folk folk = now.folk;
    if (!now.ground.hasPlace(place)) return refuse(BEYOND);
    if (folk.people >= MOST_PEOPLE) return refuse(FULL);
    folk.places[folk.people] = place;
    folk.hours[folk.people] = 0;
    return folk.people++;
  }

  public int personIs(int person, int what) {
    Folk folk = now.folk;
    if (!folk.hasPerson(person) || !within(what, 0, 1)) return refuse(BEYOND);
    return what == 0 ? folk.places[person] : folk.hours[person];
  }

  public int cross(int person, int edge) {
    if (!now.folk.hasPerson(person) || !within(edge, 0, SIDES - 1)) return refuse(BEYOND);
    if (!now.crosses(person, edge)) return refuse(STATE);
    return now.folk.places[person];
  }

  public int stroll(int person, int n) {
    if (!now.folk.hasPerson(person) || !within(n, 1, MOST_STROLLED)) return refuse(BEYOND);
    for (int i = 0; i < n; i++) {
      now.crosses(person, now.draw() % SIDES);
    }
    return now.folk.places[person];
  }

  public int meet(int one, int other, int what) {
    Folk folk = now.folk;
    boolean areTwo = folk.hasPerson(one) && folk.hasPerson(other) && one != other;
    if (!areTwo || !within(what, 0, 2)) return refuse(BEYOND);
    if (what == 0) return folk.places[one] == folk.places[other] ? 1 : 0;
    int place = meetingPlace(folk.places[one], folk.places[other]);
    if (place == RIM) return refuse(NONE);
    return what == 1 ? ways.least[place] + otherWays.least[place] : place / 2;
  }

  public int thing(int place, int worth, int alike) {
    Folk folk = now.folk;
    boolean isWhole = now.ground.hasPlace(place) && within(worth, 0, MOST_WORTH) && within(alike, 0, 1);
    if (!isWhole) return refuse(BEYOND);
    if (folk.things >= MOST_THINGS) return refuse(FULL);
    return folk.addThing(place, worth, alike);
  }

  public int thingIs(int thing, int what) {
    Folk folk = now.folk;
    if (!folk.hasThing(thing)) return refuse(BEYOND);
    switch (what) {
      case 0: return folk.lies[thing];
      case 1: return folk.worths[thing];
      case 2: return folk.alikes[thing];
      case 3: return now.price(thing, folk.lies[thing] % 2, 0);
      case 4: return now.price(thing, folk.lies[thing] % 2, 1);
      default: return refuse(BEYOND);
    }
  }

  public int bring(int person) {
    Folk folk = now.folk;
    if (!folk.hasPerson(person)) return refuse(BEYOND);
    ways.survey(now);
    int best = -1;
    int most = 0;
    for (int thing = 0; thing < folk.things; thing++) {
      ways.spread(folk.lies[thing]);
      int comes = ways.sooner(folk.places[person] / 2);
      if (comes == RIM) continue;
      int left = now.price(thing, comes % 2, folk.places[person] % 2) - ways.least[comes];
      if (best < 0 || left > most) {
        best = thing;
        most = left;
      }
    }
    return best < 0 ? refuse(NONE) : best;
  }

  // ---- doubts

  public int doubt(int set) {
    boolean areThere = set >>> now.ground.joins == 0;
    if (!areThere || Integer.bitCount(set) > MOST_DOUBTED) return refuse(BEYOND);
    int was = now.doubts.joins;
    now.doubts.joins = set;
    return was;
  }

  public int fact(int walk, int odd) {
    Doubts doubts = now.doubts;
    if (!now.walks.has(walk) || !within(odd, 0, 1)) return refuse(BEYOND);
    if (doubts.facts >= MOST_FACTS) return refuse(FULL);
    doubts.factWalks[doubts.facts] = walk;
    doubts.factOdds[doubts.facts] = odd;
    return doubts.facts++;
  }

  public int forget() {
    int were = now.doubts.facts;
    now.doubts.facts = 0;
    return were;
  }

  public int agree() {
    now.doubts.weigh(now, walker);
    return now.doubts.agreeing;
  }

  public int known(int join) {
    Doubts doubts = now.doubts;
    if (!now.ground.hasJoin(join)) return refuse(BEYOND);
    if ((doubts.joins >> join & 1) == 0) return now.ground.turned[join];
    doubts.weigh(now, walker);
    if (doubts.agreeing == 0) return refuse(NONE);
    if (doubts.turned[join] == 0) return 0;
    return doubts.turned[join] == doubts.agreeing ? 1 : 2;
  }

  public int test() {
    now.doubts.weigh(now, walker);
    int best = now.doubts.mostTelling(now.walks.size);
    return best < 0 ? refuse(NONE) : best;
  }

  public int seed(int v) {
    int was = now.drawn;
    now.drawn = v;
    return was;
  }

  // ---- voices, sheets, images, what is told

  public int voice(int walk, int voice, int x) {
    Walks walks = now.walks;
    if (!walks.has(walk) || !within(voice, 0, Voices.VOICES - 1)) return refuse(BEYOND);
    int answer = voices.speak(walks.kinds[walk], walk, walks.steps[walk], voice, x);
    return voices.parted ? refuse(PARTED) : answer;
  }

  public int body(int i) {
    if (!within(i, 0, voices.traced - 1)) return refuse(NONE);
    return voices.trace[i];
  }

  public int sheet(int sheet, int bits, int n) {
    boolean isWidth = bits == 0 || bits == 8 || bits == 16 || bits == 32;
    if (!isSheet(sheet) || !isWidth) return refuse(BEYOND);
    if (bits != 0 && n < 0) return refuse(STATE);
    if (bits != 0 && n > MOST_NUMBERS) return refuse(BEYOND);
    sheetBits[sheet] = bits;
    sheetSize[sheet] = bits == 0 ? 0 : n;
    Arrays.fill(sheetRow[sheet], 0);
    return 1;
  }

  public int put(int sheet, int i, int v) {
    if (!isSheet(sheet)) return refuse(BEYOND);
    if (sheetBits[sheet] == 0) return refuse(NONE);
    if (!within(i, 0, sheetSize[sheet] - 1)) return refuse(BEYOND);
    sheetRow[sheet][i] = lowestBits(v, sheetBits[sheet]);
    return 1;
  }

  public int move(int sheet, int i, int other, int j, int n) {
    if (!isSheet(sheet) || !isSheet(other)) return refuse(BEYOND);
    if (sheetBits[sheet] == 0 || sheetBits[other] == 0) return refuse(NONE);
    if (sheetBits[sheet] != sheetBits[other]) return refuse(KIND);
    if (!standThere(sheet, i, n) || !standThere(other, j, n)) return refuse(BEYOND);
    System.arraycopy(sheetRow[sheet], i, sheetRow[other], j, n);
    return n;
  }

  public int joins(int sheet) {
    if (!isSheet(sheet)) return refuse(BEYOND);
    if (sheetBits[sheet] == 0) return refuse(NONE);
    int[] row = sheetRow[sheet];
    int came = 0;
    for (int i = 0; i + 2 < sheetSize[sheet]; i += 3) {
      if (now.ground.joinError(row[i], row[i + 1], row[i + 2]) != 0) break;
      now.ground.addJoin(row[i], row[i + 1], row[i + 2]);
      came++;
    }
    return came;
  }

  public int image() {
    kept.takeOver(now);
    images++;
    return images;
  }

  public int restore() {
    if (images == 0) return refuse(NONE);
    now.takeOver(kept);
    return now.ground.squares;
  }

  public int tell(int v) {
    if (now.waits >= MOST_WAITING) return refuse(FULL);
    now.waiting[now.waits] = v;
    now.waits++;
    return now.waits;
  }

  public int check(int walk) {
    int waited = now.waits;
    now.waits = 0;
    if (!now.walks.has(walk)) return refuse(BEYOND);
    if (!walker.goes(now, walk, 0)) return refuse(STATE);
    int unlike = walker.firstUnlike(now.waiting, waited);
    return unlike < 0 ? 0 : 1 + unlike;
  }

  public int count(int what) {
    switch (what) {
      case 0: return now.ground.squares;
      case 1: return now.ground.joins;
      case 2: return now.walks.size;
      case 3: return now.folk.people;
      case 4: return now.folk.things;
      case 5: return now.doubts.facts;
      case 6: return now.taped;
      case 7: return now.waits;
      case 8: return voices.traced;
      case 9: return now.drawn;
      case 10: return now.doubts.joins;
      default: return refuse(BEYOND);
    }
  }

  public int told(int k) {
    if (!within(k, 1, ERRORS)) return refuse(BEYOND);
    return refused[k];
  }

  // ---- helpers of the calls

  /** Every ERROR that an act answers goes through here, so that told() can count it. */
  private int refuse(int error) {
    if (within(error, 1, ERRORS)) refused[error]++;
    return LOW - error;
  }

  private static boolean within(int v, int least, int most) {
    return v >= least && v <= most;
  }

  private static int held(int v, int least, int most) {
    return Math.max(least, Math.min(most, v));
  }

  private static int edgesOnce(Ground ground) {
    return SIDES * ground.squares - ground.joins;
  }

  private Text textOf(int use) {
    return use == HOURS_USE ? now.hoursText : now.priceText;
  }

  private static boolean isUnder(int kind, int above) {
    int at = kind;
    for (int i = 0; i < KINDS && within(at, 0, KINDS - 1); i++) {
      if (at == above) return true;
      at = KIND_ABOVE[at];
    }
    return false;
  }

  /** The place with the least HOURS of both together; places go by SQUARES, so the least place has the least SQUARE. */
  private int meetingPlace(int one, int other) {
    ways.survey(now);
    ways.spread(one);
    otherWays.survey(now);
    otherWays.spread(other);
    int best = RIM;
    int least = 0;
    for (int place = 0; place < MOST_PLACES; place++) {
      if (ways.least[place] < 0 || otherWays.least[place] < 0) continue;
      int both = ways.least[place] + otherWays.least[place];
      if (best == RIM || both < least) {
        best = place;
        least = both;
      }
    }
    return best;
  }

  private static boolean isSheet(int sheet) {
    return within(sheet, 0, SHEETS - 1);
  }

  private static int lowestBits(int v, int bits) {
    return bits == 32 ? v : v & ((1 << bits) - 1);
  }

  /** Asked by a difference: i + n could wrap. */
  private boolean standThere(int sheet, int i, int n) {
    return n >= 0 && i >= 0 && n <= sheetSize[sheet] && i <= sheetSize[sheet] - n;
  }

  // ---- what is kept as an IMAGE

  /** All that an IMAGE holds. */
  private static final class World {
    final Ground ground = new Ground();
    final Walks walks = new Walks();
    final Folk folk = new Folk();
    final Doubts doubts = new Doubts();
    final Text hoursText = new Text();
    final Text priceText = new Text();
    final int[] tape = new int[MOST_BYTES];
    int taped = 0;
    final int[] waiting = new int[MOST_WAITING];
    int waits = 0;
    int drawn = 1;

    void takeOver(World from) {
      ground.takeOver(from.ground);
      walks.takeOver(from.walks);
      folk.takeOver(from.folk);
      doubts.takeOver(from.doubts);
      hoursText.takeOver(from.hoursText);
      priceText.takeOver(from.priceText);
      System.arraycopy(from.tape, 0, tape, 0, MOST_BYTES);
      taped = from.taped;
      System.arraycopy(from.waiting, 0, waiting, 0, MOST_WAITING);
      waits = from.waits;
      drawn = from.drawn;
    }

    int draw() {
      drawn = drawn * 1103515245 + 12345;
      return drawn >>> 8;
    }

    /** HOURS of a CROSSING; 0 where there is RIM. */
    int hours(int place, int edge) {
      int comes = ground.comesTo(place, edge);
      if (comes == RIM) return 0;
      int left = ground.costs[place / 2];
      if (!hoursText.isThere) return left;
      int isTurned = (place ^ comes) & 1;
      int worked = hoursText.workOut(left, ground.costs[comes / 2], place % 2, isTurned);
      return held(worked, 1, MOST_CROSSING);
    }

    /** PRICE of a THING that has itsHand to somebody with a hand. */
    int price(int thing, int itsHand, int hand) {
      int worth = folk.worths[thing];
      int alike = folk.alikes[thing];
      int same = itsHand == hand ? 1 : 0;
      if (!priceText.isThere) return (alike | same) == 1 ? worth : worth / 2;
      return held(priceText.workOut(worth, alike, same, 0), 0, MOST_WORTH);
    }

    /** One of PEOPLE crosses an EDGE, if that is joined. */
    boolean crosses(int person, int edge) {
      int place = folk.places[person];
      int comes = ground.comesTo(place, edge);
      if (comes == RIM) return false;
      folk.hours[person] = Math.min(MOST_HOURS, folk.hours[person] + hours(place, edge));
      folk.places[person] = comes;
      return true;
    }
  }

  /** SQUARES and JOINS. */
  private static final class Ground {
    int squares = 0;
    final int[] costs = new int[MOST_SQUARES];
    int joins = 0;
    /** The EDGES of JOIN j stand at 2 * j and behind it. */
    final int[] ends = new int[2 * MOST_JOINS];
    final int[] turned = new int[MOST_JOINS];
    final int[] joinAt = new int[MOST_EDGES];

    Ground() {
      Arrays.fill(joinAt, RIM);
    }

    void takeOver(Ground from) {
      squares = from.squares;
      System.arraycopy(from.costs, 0, costs, 0, MOST_SQUARES);
      joins = from.joins;
      System.arraycopy(from.ends, 0, ends, 0, 2 * MOST_JOINS);
      System.arraycopy(from.turned, 0, turned, 0, MOST_JOINS);
      System.arraycopy(from.joinAt, 0, joinAt, 0, MOST_EDGES);
    }

    boolean hasSquare(int square) {
      return within(square, 0, squares - 1);
    }

    boolean hasPlace(int place) {
      return within(place, 0, 2 * squares - 1);
    }

    boolean hasEdge(int edge) {
      return edge >= 0 && edge < SIDES * squares;
    }

    boolean hasJoin(int join) {
      return within(join, 0, joins - 1);
    }

    /** The ERROR with which a JOIN is refused; 0 if it isn't. */
    int joinError(int one, int other, int turn) {
      boolean areEdges = hasEdge(one) && hasEdge(other) && one != other;
      if (!areEdges || !within(turn, 0, 1)) return BEYOND;
      if (joinAt[one] != RIM || joinAt[other] != RIM) return STATE;
      return joins >= MOST_JOINS ? FULL : 0;
    }

    /** For a JOIN that joinError() doesn't refuse. */
    int addJoin(int one, int other, int turn) {
      ends[2 * joins] = one;
      ends[2 * joins + 1] = other;
      turned[joins] = turn;
      joinAt[one] = joins;
      joinAt[other] = joins;
      return joins++;
    }

    void takeOffLatest() {
      if (joins == 0) return;
      joins--;
      joinAt[ends[2 * joins]] = RIM;
      joinAt[ends[2 * joins + 1]] = RIM;
    }

    int otherEdge(int edge) {
      if (!hasEdge(edge) || joinAt[edge] == RIM) return RIM;
      int one = 2 * joinAt[edge];
      return ends[one] == edge ? ends[one + 1] : ends[one];
    }

    /** The place to which one comes from a place by a CROSSING. */
    int comesTo(int place, int edge) {
      int from = SIDES * (place / 2) + edge;
      int to = otherEdge(from);
      if (to == RIM) return RIM;
      return 2 * (to / SIDES) + (place % 2 ^ turned[joinAt[from]]);
    }

    int joinOf(int place, int edge) {
      int from = SIDES * (place / 2) + edge;
      return hasEdge(from) ? joinAt[from] : RIM;
    }

    /** JOINS that are told as TURNED, as bits. */
    int turnedSet() {
      int set = 0;
      for (int join = 0; join < joins; join++) {
        set |= turned[join] << join;
      }
      return set;
    }
  }

  /** WALKS as they are told. */
  private static final class Walks {
    int size = 0;
    final int[] kinds = new int[MOST_WALKS];
    final int[] begins = new int[MOST_WALKS];
    final int[] steps = new int[MOST_WALKS];
    final int[] marks = new int[MOST_WALKS];
    final int[][] edges = new int[MOST_WALKS][MOST_STEPS];

    void takeOver(Walks from) {
      size = from.size;
      System.arraycopy(from.kinds, 0, kinds, 0, MOST_WALKS);
      System.arraycopy(from.begins, 0, begins, 0, MOST_WALKS);
      System.arraycopy(from.steps, 0, steps, 0, MOST_WALKS);
      System.arraycopy(from.marks, 0, marks, 0, MOST_WALKS);
      for (int walk = 0; walk < MOST_WALKS; walk++) {
        System.arraycopy(from.edges[walk], 0, edges[walk], 0, MOST_STEPS);
      }
    }

    boolean has(int walk) {
      return within(walk, 0, size - 1);
    }

    /** How many EDGES a number tells; -1 if it tells none rightly. */
    static int stepsOf(int digits) {
      int rest = digits;
      int found = 0;
      for (int i = 0; i < MOST_STEPS && rest > 0; i++) {
        if (!within(rest % 10, 1, SIDES)) return -1;
        rest /= 10;
        found++;
      }
      return rest == 0 ? found : -1;
    }

    /** For a number that stepsOf() takes, while there is room. */
    int add(int kind, int square, int digits) {
      kinds[size] = kind;
      begins[size] = square;
      steps[size] = stepsOf(digits);
      marks[size] = -1;
      int rest = digits;
      for (int i = steps[size] - 1; i >= 0; i--) {
        edges[size][i] = rest % 10 - 1;
        rest /= 10;
      }
      return size++;
    }
  }

  /** PEOPLE and THINGS. */
  private static final class Folk {
    int people = 0;
    final int[] places = new int[MOST_PEOPLE];
    final int[] hours = new int[MOST_PEOPLE];
    int things = 0;
    final int[] lies = new int[MOST_THINGS];
    final int[] worths = new int[MOST_THINGS];
    final int[] alikes = new int[MOST_THINGS];

    void takeOver(Folk from) {
      people = from.people;
      System.arraycopy(from.places, 0, places, 0, MOST_PEOPLE);
      System.arraycopy(from.hours, 0, hours, 0, MOST_PEOPLE);
      things = from.things;
      System.arraycopy(from.lies, 0, lies, 0, MOST_THINGS);
      System.arraycopy(from.worths, 0, worths, 0, MOST_THINGS);
      System.arraycopy(from.alikes, 0, alikes, 0, MOST_THINGS);
    }

    boolean hasPerson(int person) {
      return within(person, 0, people - 1);
    }

    boolean hasThing(int thing) {
      return within(thing, 0, things - 1);
    }

    int addThing(int place, int worth, int alike) {
      lies[things] = place;
      worths[things] = worth;
      alikes[things] = alike;
      return things++;
    }
  }

  /** JOINS in DOUBT (as bits) and FACTS; and all ways in which those JOINS may be, weighed against these. */
  private static final class Doubts {
    int joins = 0;
    int facts = 0;
    final int[] factWalks = new int[MOST_FACTS];
    final int[] factOdds = new int[MOST_FACTS];

    /** From here on weigh() sets all anew: in how many ways FACTS are all so. */
    int agreeing = 0;
    /** In how many of these a JOIN is TURNED. */
    final int[] turned = new int[MOST_JOINS];
    /** In how many of these one's HAND behind a WALK is as ahead. */
    private final int[] evens = new int[MOST_WALKS];
    /** JOINS (as bits) that a WALK crosses an odd number of times; -1 if it can't be gone. */
    private final int[] oddJoins = new int[MOST_WALKS];

    void takeOver(Doubts from) {
      joins = from.joins;
      facts = from.facts;
      System.arraycopy(from.factWalks, 0, factWalks, 0, MOST_FACTS);
      System.arraycopy(from.factOdds, 0, factOdds, 0, MOST_FACTS);
    }

    void weigh(World world, Walker walker) {
      for (int walk = 0; walk < world.walks.size; walk++) {
        oddJoins[walk] = walker.goes(world, walk, 0) ? walker.oddJoins(world, walk) : -1;
      }
      agreeing = 0;
      Arrays.fill(turned, 0);
      Arrays.fill(evens, 0);
      int sure = world.ground.turnedSet() & ~joins;
      int guess = joins;
      for (int left = 1 << Integer.bitCount(joins); left > 0; left--) {
        if (areSo(sure | guess)) countIn(world, sure | guess);
        guess = (guess - 1) & joins;
      }
    }

    /** The WALK that can be gone whose greater part is least; -1 if there is none. */
    int mostTelling(int walks) {
      int best = -1;
      int least = 0;
      for (int walk = 0; walk < walks; walk++) {
        int greater = Math.max(evens[walk], agreeing - evens[walk]);
        if (oddJoins[walk] >= 0 && (best < 0 || greater < least)) {
          best = walk;
          least = greater;
        }
      }
      return best;
    }

    private boolean areSo(int turnedSet) {
      for (int fact = 0; fact < facts; fact++) {
        int crossed = oddJoins[factWalks[fact]];
        if (crossed < 0 || turnsOver(crossed, turnedSet) != factOdds[fact]) return false;
      }
      return true;
    }

    private void countIn(World world, int turnedSet) {
      agreeing++;
      for (int join = 0; join < world.ground.joins; join++) {
        turned[join] += turnedSet >> join & 1;
      }
      for (int walk = 0; walk < world.walks.size; walk++) {
        if (oddJoins[walk] >= 0) evens[walk] += 1 - turnsOver(oddJoins[walk], turnedSet);
      }
    }

    private static int turnsOver(int crossed, int turnedSet) {
      return Integer.bitCount(crossed & turnedSet) & 1;
    }
  }

  // ---- what is worked out anew at each call

  /** CORNERS, PARTS, RIMS, and coming home with the other HAND. */
  private static final class Shape {
    /** Those that are one have the same label: the number of one of them. */
    private final int[] labels = new int[MOST_EDGES];
    /** 1 if one's HAND in a SQUARE is other than in the SQUARE of the label. */
    private final int[] flips = new int[MOST_SQUARES];

    int corners(Ground ground) {
      makeCornersOne(ground);
      return labelsLeft(SIDES * ground.squares);
    }

    int parts(Ground ground) {
      begin(ground.squares);
      for (int join = 0; join < ground.joins; join++) {
        makeOne(ground.squares, ground.ends[2 * join] / SIDES, ground.ends[2 * join + 1] / SIDES);
      }
      return labelsLeft(ground.squares);
    }

    int rims(Ground ground) {
      int edges = SIDES * ground.squares;
      makeCornersOne(ground);
      for (int edge = 0; edge < edges; edge++) {
        if (ground.joinAt[edge] == RIM) makeOne(edges, edge, secondCorner(edge));
      }
      int rings = 0;
      for (int edge = 0; edge < edges; edge++) {
        if (ground.joinAt[edge] == RIM) rings |= 1 << labels[edge];
      }
      return Integer.bitCount(rings);
    }

    /** Whether somebody comes home with the other HAND, if JOINS (as bits) are left out. */
    boolean turnsHome(Ground ground, int leftOut) {
      begin(ground.squares);
      Arrays.fill(flips, 0);
      for (int join = 0; join < ground.joins; join++) {
        boolean isLeftOut = (leftOut >> join & 1) == 1;
        if (!isLeftOut && !hangsTogether(ground, join)) return true;
      }
      return false;
    }

    /** PLAIN; -1 if two JOINS don't do. */
    int leastCuts(Ground ground) {
      if (!turnsHome(ground, 0)) return 0;
      for (int one = 0; one < ground.joins; one++) {
        if (!turnsHome(ground, 1 << one)) return 1;
      }
      for (int one = 0; one < ground.joins; one++) {
        for (int other = one + 1; other < ground.joins; other++) {
          if (!turnsHome(ground, 1 << one | 1 << other)) return 2;
        }
      }
      return -1;
    }

    /** A CORNER has the number of the EDGE that it is the first one of. */
    private static int secondCorner(int edge) {
      return edge % SIDES == SIDES - 1 ? edge - (SIDES - 1) : edge + 1;
    }

    private void makeCornersOne(Ground ground) {
      int corners = SIDES * ground.squares;
      begin(corners);
      for (int join = 0; join < ground.joins; join++) {
        int one = ground.ends[2 * join];
        int other = ground.ends[2 * join + 1];
        boolean isTurned = ground.turned[join] == 1;
        makeOne(corners, one, isTurned ? other : secondCorner(other));
        makeOne(corners, secondCorner(one), isTurned ? secondCorner(other) : other);
      }
    }

    /** False if the HANDS by this JOIN aren't as by those ahead. */
    private boolean hangsTogether(Ground ground, int join) {
      int one = ground.ends[2 * join] / SIDES;
      int other = ground.ends[2 * join + 1] / SIDES;
      int flip = flips[one] ^ flips[other] ^ ground.turned[join];
      if (labels[one] == labels[other]) return flip == 0;
      int lost = labels[other];
      for (int square = 0; square < ground.squares; square++) {
        if (labels[square] == lost) flips[square] ^= flip;
      }
      makeOne(ground.squares, one, other);
      return true;
    }

    private void begin(int size) {
      for (int i = 0; i < size; i++) {
        labels[i] = i;
      }
    }

    private void makeOne(int size, int one, int other) {
      int stays = labels[one];
      int lost = labels[other];
      if (stays == lost) return;
      for (int i = 0; i < size; i++) {
        if (labels[i] == lost) labels[i] = stays;
      }
    }

    private int labelsLeft(int size) {
      int left = 0;
      for (int i = 0; i < size; i++) {
        if (labels[i] == i) left++;
      }
      return left;
    }
  }

  /** The least HOURS from one place to all others. */
  private static final class Ways {
    /** -1 where a place isn't REACHED. */
    final int[] least = new int[MOST_PLACES];
    /** EDGES (as bits) that one crosses first on a SOONEST way. */
    final int[] firsts = new int[MOST_PLACES];
    private final int[][] comes = new int[MOST_PLACES][SIDES];
    private final int[][] hours = new int[MOST_PLACES][SIDES];
    private int places = 0;

    /** HOURS of all CROSSINGS are worked out once, as several spreads may follow. */
    void survey(World world) {
      places = 2 * world.ground.squares;
      for (int place = 0; place < places; place++) {
        for (int edge = 0; edge < SIDES; edge++) {
          comes[place][edge] = world.ground.comesTo(place, edge);
          hours[place][edge] = world.hours(place, edge);
        }
      }
    }

    void spread(int from) {
      Arrays.fill(least, -1);
      Arrays.fill(firsts, 0);
      least[from] = 0;
      int left = (1 << places) - 1;
      for (int i = 0; i < places; i++) {
        int place = nearest(left);
        if (place == RIM) break;
        left &= ~(1 << place);
        for (int edge = 0; edge < SIDES; edge++) {
          int first = place == from ? 1 << edge : firsts[place];
          if (comes[place][edge] != RIM) comeTo(comes[place][edge], least[place] + hours[place][edge], first);
        }
      }
    }

    /** The place of a SQUARE that is reached sooner; that with HAND 0 of two as soon. */
    int sooner(int square) {
      int right = least[2 * square];
      int left = least[2 * square + 1];
      if (right < 0 && left < 0) return RIM;
      boolean byLeft = right < 0 || left >= 0 && left < right;
      return byLeft ? 2 * square + 1 : 2 * square;
    }

    private int nearest(int among) {
      int best = RIM;
      for (int place = 0; place < places; place++) {
        boolean isOpen = (among >> place & 1) == 1 && least[place] >= 0;
        if (isOpen && (best == RIM || least[place] < least[best])) best = place;
      }
      return best;
    }

    private void comeTo(int place, int inHours, int first) {
      if (least[place] < 0 || inHours < least[place]) {
        least[place] = inHours;
        firsts[place] = first;
      } else if (inHours == least[place]) {
        firsts[place] |= first;
      }
    }
  }

  /** Goes a WALK and remembers by which places. */
  private static final class Walker {
    private final int[] places = new int[MOST_STEPS + 1];
    /** How many EDGES were crossed. */
    int crossed = 0;

    /** Whether the WALK is there and can be gone. */
    boolean goes(World world, int walk, int hand) {
      crossed = 0;
      if (!world.walks.has(walk)) return false;
      int place = 2 * world.walks.begins[walk] + hand;
      places[0] = place;
      int steps = world.walks.steps[walk];
      for (int i = 0; i < steps; i++) {
        place = world.ground.comesTo(place, world.walks.edges[walk][i]);
        if (place == RIM) return false;
        crossed++;
        places[crossed] = place;
      }
      return true;
    }

    int end() {
      return places[crossed];
    }

    int hours(World world, int walk) {
      int sum = 0;
      for (int i = 0; i < crossed; i++) {
        sum += world.hours(places[i], world.walks.edges[walk][i]);
      }
      return sum;
    }

    int turns() {
      int turned = 0;
      for (int i = 0; i < crossed; i++) {
        turned += (places[i] ^ places[i + 1]) & 1;
      }
      return turned;
    }

    /** JOINS (as bits) that were crossed an odd number of times. */
    int oddJoins(World world, int walk) {
      int set = 0;
      for (int i = 0; i < crossed; i++) {
        set ^= 1 << world.ground.joinOf(places[i], world.walks.edges[walk][i]);
      }
      return set;
    }

    /** The first of the numbers that isn't the place gone by, or lacks, or is too many; -1 if there is none. */
    int firstUnlike(int[] numbers, int size) {
      for (int i = 0; i < size; i++) {
        if (i > crossed || numbers[i] != places[i]) return i;
      }
      return size <= crossed ? size : -1;
    }

    boolean isSo(World world, int walk) {
      if (!goes(world, walk, 0)) return false;
      int begin = places[0];
      int end = end();
      int mark = world.walks.marks[walk];
      switch (world.walks.kinds[walk]) {
        case ROUND: return end / 2 == begin / 2;
        case EVEN: return end == begin;
        case ODD: return end == begin + 1;
        case PAIR: return goes(world, walk + 1, 0) && end() == end;
        case TOLD: return mark == -1 || hours(world, walk) == mark;
        case WHOLE: return end == begin && seen() == (1 << world.ground.squares) - 1;
        default: return true;
      }
    }

    private int seen() {
      int squares = 0;
      for (int i = 0; i <= crossed; i++) {
        squares |= 1 << places[i] / 2;
      }
      return squares;
    }
  }

  // ---- TEXTS

  /** A TEXT as operations behind their operands. */
  private static final class Text {
    static final int NUMBER = 0;
    static final int NAME = 1;

    boolean isThere = false;
    private int size = 0;
    private final int[] operations = new int[MOST_BYTES];
    private final int[] operands = new int[MOST_BYTES];
    private final int[] stack = new int[MOST_BYTES];
    private final int[] names = new int[4];

    void takeOver(Text from) {
      isThere = from.isThere;
      size = from.size;
      System.arraycopy(from.operations, 0, operations, 0, MOST_BYTES);
      System.arraycopy(from.operands, 0, operands, 0, MOST_BYTES);
    }

    void takeFrom(Reader reader) {
      isThere = true;
      size = reader.size;
      System.arraycopy(reader.operations, 0, operations, 0, MOST_BYTES);
      System.arraycopy(reader.operands, 0, operands, 0, MOST_BYTES);
    }

    /** The value of the TEXT, by those of its NAMES in their order. */
    int workOut(int one, int two, int three, int four) {
      names[0] = one;
      names[1] = two;
      names[2] = three;
      names[3] = four;
      int top = 0;
      for (int i = 0; i < size; i++) {
        int operation = operations[i];
        if (operation == NUMBER || operation == NAME) {
          if (top < MOST_BYTES) stack[top++] = valueAt(i);
        } else if (operation == '!') {
          if (top >= 1) stack[top - 1] = bit(stack[top - 1] == 0);
        } else if (top >= 2) {
          top--;
          stack[top - 1] = combine(operation, stack[top - 1], stack[top]);
        }
      }
      return top >= 1 ? stack[top - 1] : 0;
    }

    private int valueAt(int i) {
      int operand = operands[i];
      if (operations[i] == NUMBER) return operand;
      return within(operand, 0, 3) ? names[operand] : 0;
    }

    private static int combine(int operation, int left, int right) {
      switch (operation) {
        case '+': return left + right;
        case '-': return left - right;
        case '*': return left * right;
        case '/': return right == 0 ? 0 : left / right;
        case '%': return right == 0 ? 0 : left % right;
        case '<': return bit(left < right);
        case '=': return bit(left == right);
        case '>': return bit(left > right);
        case '&': return bit(left != 0 && right != 0);
        case '|': return bit(left != 0 || right != 0);
        default: return 0;
      }
    }

    private static int bit(boolean is) {
      return is ? 1 : 0;
    }
  }

  /**
   * Reads a TEXT from the left; one byte ahead tells all, so the place where reading ends is
   * the FAULT. The methods carry how many of ! and ( are open, which keeps their depth low.
   */
  private static final class Reader {
    private static final char[] HOURS_NAMES = {'c', 'd', 'h', 'j'};
    private static final char[] PRICE_NAMES = {'w', 'a', 's'};
    private static final int END = -1;

    final int[] operations = new int[MOST_BYTES];
    final int[] operands = new int[MOST_BYTES];
    int size = 0;
    int at = 0;
    private final int[] bytes = new int[MOST_BYTES];
    private int length = 0;
    private int use = 0;

    boolean read(int[] tape, int taped, int forUse) {
      System.arraycopy(tape, 0, bytes, 0, MOST_BYTES);
      length = taped;
      use = forUse;
      size = 0;
      at = 0;
      return readOr(0) && at == length;
    }

    private int next() {
      return at < length && at < MOST_BYTES ? bytes[at] : END;
    }

    private void write(int operation, int operand) {
      if (size >= MOST_BYTES) return;
      operations[size] = operation;
      operands[size] = operand;
      size++;
    }

    private boolean readOr(int open) {
      if (!readAnd(open)) return false;
      for (int i = 0; i < MOST_BYTES && next() == '|'; i++) {
        at++;
        if (!readAnd(open)) return false;
        write('|', 0);
      }
      return true;
    }

    private boolean readAnd(int open) {
      if (!readCompared(open)) return false;
      for (int i = 0; i < MOST_BYTES && next() == '&'; i++) {
        at++;
        if (!readCompared(open)) return false;
        write('&', 0);
      }
      return true;
    }

    private boolean readCompared(int open) {
      if (!readSum(open)) return false;
      int sign = next();
      if (sign != '<' && sign != '=' && sign != '>') return true;
      at++;
      if (!readSum(open)) return false;
      write(sign, 0);
      return true;
    }

    private boolean readSum(int open) {
      if (!readProduct(open)) return false;
      for (int i = 0; i < MOST_BYTES; i++) {
        int sign = next();
        if (sign != '+' && sign != '-') break;
        at++;
        if (!readProduct(open)) return false;
        write(sign, 0);
      }
      return true;
    }

    private boolean readProduct(int open) {
      if (!readSingle(open)) return false;
      for (int i = 0; i < MOST_BYTES; i++) {
        int sign = next();
        if (sign != '*' && sign != '/' && sign != '%') break;
        at++;
        if (!readSingle(open)) return false;
        write(sign, 0);
      }
      return true;
    }

    private boolean readSingle(int open) {
      int sign = next();
      if (isDigit(sign)) return readNumber();
      if (sign != '!' && sign != '(') return readName(sign);
      if (open >= MOST_OPEN) return false;
      at++;
      if (sign == '!') {
        if (!readSingle(open + 1)) return false;
        write('!', 0);
        return true;
      }
      if (!readOr(open + 1) || next() != ')') return false;
      at++;
      return true;
    }

    private boolean readNumber() {
      int number = 0;
      for (int i = 0; i < MOST_DIGITS && isDigit(next()); i++) {
        number = number * 10 + next() - '0';
        at++;
      }
      write(Text.NUMBER, number);
      return true;
    }

    private boolean readName(int sign) {
      char[] names = use == HOURS_USE ? HOURS_NAMES : PRICE_NAMES;
      for (int i = 0; i < names.length; i++) {
        if (names[i] == sign) {
          at++;
          write(Text.NAME, i);
          return true;
        }
      }
      return false;
    }

    private static boolean isDigit(int sign) {
      return within(sign, '0', '9');
    }
  }

  // ---- VOICES

  /** VOICES of a WALK by its KIND, and THE TRACE of their BODIES. */
  private static final class Voices {
    static final int VOICES = 4;
    private static final int GOES = 0;
    private static final int TURNS = 1;
    private static final int MEETS = 2;
    private static final int ENDS = 3;
    /** The BODY of a KIND for each of the four VOICES; 0 where it has none of its own. */
    private static final int[] BODIES = {
      10, 11, 12, 13,
      20, 0, 0, 21,
      0, 30, 0, 0,
      41, 0, 40, 0,
      0, 0, 50, 0,
      60, 61, 0, 0,
      70, 0, 0, 71
    };
    /** No BODY goes deeper than some dozen; the guard stands far above. */
    private static final int MOST_DEEP = 40;

    final int[] trace = new int[MOST_TRACED];
    int traced = 0;
    boolean parted = false;
    private int kind = 0;
    private int number = 0;
    private int steps = 0;

    int speak(int itsKind, int itsNumber, int itsSteps, int voice, int x) {
      kind = itsKind;
      number = itsNumber;
      steps = itsSteps;
      traced = 0;
      parted = false;
      return say(kind, voice, x, 0);
    }

    /** The VOICE by the BODY of a KIND, or of the next one above that has one. */
    private int say(int from, int voice, int x, int depth) {
      int at = from;
      for (int i = 0; i < KINDS && within(at, 0, KINDS - 1); i++) {
        int body = BODIES[VOICES * at + voice];
        if (body != 0) {
          begin(body);
          return depth < MOST_DEEP ? work(body, at, x, depth + 1) : 0;
        }
        at = KIND_ABOVE[at];
      }
      return 0;
    }

    private void begin(int body) {
      if (traced >= MOST_TRACED) return;
      trace[traced] = body;
      traced++;
    }

    private int work(int body, int at, int x, int depth) {
      int above = KIND_ABOVE[at];
      switch (body) {
        case 10: return x + number;
        case 11: return say(kind, GOES, x, depth) * 2;
        case 12: return say(kind, TURNS, x, depth) - steps;
        case 13: return divide(x);
        case 20: return say(above, GOES, x, depth) - 7;
        case 21: return endsRound(above, x, depth);
        case 30: return 0 - say(above, TURNS, x, depth);
        case 40: return say(above, MEETS, x / 2, depth);
        case 41: return say(above, GOES, x, depth) ^ number;
        case 50: return say(above, MEETS, x + 1, depth);
        case 60: return 2;
        case 61: return say(above, TURNS, x, depth) + steps;
        case 70: return say(above, GOES, x, depth) * 3;
        case 71: return endsWhole(above, x, depth);
        default: return 0;
      }
    }

    private int divide(int x) {
      int by = steps - number;
      if (by == 0) {
        parted = true;
        return 0;
      }
      return x / by;
    }

    /** What stands right of a part that is PARTED doesn't begin. */
    private int endsRound(int above, int x, int depth) {
      int left = say(above, ENDS, x, depth);
      return parted ? 0 : left + say(kind, TURNS, 1, depth);
    }

    private int endsWhole(int above, int x, int depth) {
      int left = say(above, ENDS, x, depth);
      return parted ? 0 : left - say(kind, MEETS, 0, depth);
    }
  }
}
