import java.util.ArrayDeque;
import java.util.ArrayList;
import java.util.Deque;
import java.util.List;

/**
 * The document said a second time, as plainly as the Java library allows and by other ways than the
 * program takes (searches instead of labels, real super calls, a stack for TEXTS). RandomRunsTest
 * holds the program against it.
 */
final class PlainLand {
  private static final class Refusal extends RuntimeException {
    private static final long serialVersionUID = 1L;
    private final int error;

    Refusal(int error) {
      super("LOW - " + error, null, false, false);
      this.error = error;
    }
  }

  private record Join(int one, int other, int turned) {}

  private record Walk(int kind, int square, String edges, int mark) {}

  private record Person(int place, int hours) {}

  private record Thing(int place, int worth, int alike) {}

  private record Fact(int walk, int odd) {}

  private static final class State {
    List<Integer> costs = new ArrayList<>();
    List<Join> joins = new ArrayList<>();
    List<Walk> walks = new ArrayList<>();
    List<Person> people = new ArrayList<>();
    List<Thing> things = new ArrayList<>();
    List<Fact> facts = new ArrayList<>();
    List<Integer> doubted = new ArrayList<>();
    List<Integer> waiting = new ArrayList<>();
    String tape = "";
    String[] texts = new String[2];
    int z = 1;

    State copy() {
      State c = new State();
      c.costs.addAll(costs);
      c.joins.addAll(joins);
      c.walks.addAll(walks);
      c.people.addAll(people);
      c.things.addAll(things);
      c.facts.addAll(facts);
      c.doubted.addAll(doubted);
      c.waiting.addAll(waiting);
      c.tape = tape;
      c.texts = texts.clone();
      c.z = z;
      return c;
    }
  }

  private State now = new State();
  private State kept = null;
  private int images = 0;
  private final Object[] sheets = new Object[4];
  private List<Integer> trace = new ArrayList<>();
  private final int[] told = new int[7];

  /** One call by its name; args as in the document (the word of feed() is the first). */
  long call(String name, long[] a) {
    try {
      return act(name, a);
    } catch (Refusal r) {
      told[r.error]++;
      return -1000000 - r.error;
    }
  }

  private long act(String name, long[] a) {
    int[] i = new int[5];
    for (int k = 0; k < a.length; k++) i[k] = (int) a[k];
    switch (name) {
      case "square": return square(i[0]);
      case "cost": return cost(i[0], i[1]);
      case "join": return join(i[0], i[1], i[2]);
      case "joinIs": return joinIs(i[0], i[1]);
      case "turn": return turn(i[0], i[1]);
      case "part": return part();
      case "across": return across(i[0]);
      case "land": return land(i[0]);
      case "plain": return plain();
      case "feed": return feed(a[0], i[1]);
      case "text": return text(i[0]);
      case "untell": return untell(i[0]);
      case "soonest": return soonest(i[0], i[1]);
      case "reached": return reached(i[0]);
      case "first": return first(i[0], i[1]);
      case "walk": return walk(i[0], i[1], i[2]);
      case "walkIs": return walkIs(i[0], i[1]);
      case "as": return as(i[0], i[1]);
      case "set": return set(i[0], i[1], i[2]);
      case "gone": return gone(i[0], i[1], i[2]);
      case "stops": return stops(i[0]);
      case "person": return person(i[0]);
      case "personIs": return personIs(i[0], i[1]);
      case "cross": return cross(i[0], i[1]);
      case "stroll": return stroll(i[0], i[1]);
      case "meet": return meet(i[0], i[1], i[2]);
      case "thing": return thing(i[0], i[1], i[2]);
      case "thingIs": return thingIs(i[0], i[1]);
      case "bring": return bring(i[0]);
      case "doubt": return doubt(i[0]);
      case "fact": return fact(i[0], i[1]);
      case "forget": return forget();
      case "agree": return agreeing().size();
      case "known": return known(i[0]);
      case "test": return test();
      case "seed": return seed(i[0]);
      case "voice": return voice(i[0], i[1], i[2]);
      case "body": return body(i[0]);
      case "sheet": return sheet(i[0], i[1], i[2]);
      case "put": return put(i[0], i[1], i[2]);
      case "move": return move(i[0], i[1], i[2], i[3], i[4]);
      case "joins": return joins(i[0]);
      case "image": return image();
      case "restore": return restore();
      case "tell": return tell(i[0]);
      case "check": return check(i[0]);
      case "count": return count(i[0]);
      case "told": return told(i[0]);
      default: throw new IllegalStateException(name);
    }
  }

  private static void ask(boolean fine, int error) {
    if (!fine) throw new Refusal(error);
  }

  private static boolean in(int v, int from, int below) {
    return from <= v && v < below;
  }

  // ---- the land

  private int squares() {
    return now.costs.size();
  }

  private int square(int cost) {
    ask(in(cost, 1, 100), 1);
    ask(squares() < 8, 4);
    now.costs.add(cost);
    return squares() - 1;
  }

  private int cost(int square, int v) {
    ask(in(square, 0, squares()) && in(v, 1, 100), 1);
    return now.costs.set(square, v);
  }

  private Integer partner(int edge) {
    for (Join j : now.joins) {
      if (j.one == edge) return j.other;
      if (j.other == edge) return j.one;
    }
    return null;
  }

  private int join(int one, int other, int turned) {
    ask(in(one, 0, 4 * squares()) && in(other, 0, 4 * squares()) && one != other && in(turned, 0, 2), 1);
    ask(partner(one) == null && partner(other) == null, 3);
    ask(now.joins.size() < 16, 4);
    now.joins.add(new Join(one, other, turned));
    return now.joins.size() - 1;
  }

  private int joinIs(int join, int what) {
    ask(in(join, 0, now.joins.size()) && in(what, 0, 3), 1);
    Join j = now.joins.get(join);
    return new int[] {j.one, j.other, j.turned}[what];
  }

  private int turn(int join, int v) {
    ask(in(join, 0, now.joins.size()) && in(v, 0, 2), 1);
    Join j = now.joins.get(join);
    now.joins.set(join, new Join(j.one, j.other, v));
    return j.turned;
  }

  private int part() {
    ask(!now.joins.isEmpty(), 3);
    int last = now.joins.size() - 1;
    now.joins.remove(last);
    now.doubted.remove((Object) last);
    return last;
  }

  private int across(int edge) {
    ask(in(edge, 0, 4 * squares()), 1);
    ask(partner(edge) != null, 2);
    return partner(edge);
  }

  /** How many groups a relation leaves, counting those with a mark alone. */
  private static int groups(boolean[][] one, boolean[] counted) {
    int n = one.length;
    boolean[] seen = new boolean[n];
    int groups = 0;
    for (int i = 0; i < n; i++) {
      if (seen[i]) continue;
      Deque<Integer> open = new ArrayDeque<>();
      open.add(i);
      seen[i] = true;
      boolean counts = false;
      while (!open.isEmpty()) {
        int at = open.remove();
        counts |= counted[at];
        for (int k = 0; k < n; k++) {
          if (one[at][k] && !seen[k]) {
            seen[k] = true;
            open.add(k);
          }
        }
      }
      if (counts) groups++;
    }
    return groups;
  }

  private static void tie(boolean[][] one, int a, int b) {
    one[a][b] = true;
    one[b][a] = true;
  }

  private static int cornerBehind(int edge) {
    return edge / 4 * 4 + (edge + 1) % 4;
  }

  private boolean[][] cornersOne() {
    boolean[][] one = new boolean[4 * squares()][4 * squares()];
    for (Join j : now.joins) {
      int a = j.one;
      int a2 = cornerBehind(a);
      int b = j.other;
      int b2 = cornerBehind(b);
      if (j.turned == 1) {
        tie(one, a, b);
        tie(one, a2, b2);
      } else {
        tie(one, a, b2);
        tie(one, a2, b);
      }
    }
    return one;
  }

  private static boolean[] all(int n) {
    boolean[] all = new boolean[n];
    java.util.Arrays.fill(all, true);
    return all;
  }

  private int rims() {
    boolean[][] one = cornersOne();
    boolean[] counted = new boolean[4 * squares()];
    for (int e = 0; e < 4 * squares(); e++) {
      if (partner(e) != null) continue;
      tie(one, e, cornerBehind(e));
      counted[e] = true;
    }
    return groups(one, counted);
  }

  private int land(int what) {
    ask(in(what, 0, 6), 1);
    int edges = 4 * squares() - now.joins.size();
    int corners = groups(cornersOne(), all(4 * squares()));
    if (what == 0) return corners;
    if (what == 1) return edges;
    if (what == 2) return corners - edges + squares();
    if (what == 4) return rims();
    if (what == 5) return comesHomeTurned(now.joins) ? 1 : 0;
    boolean[][] one = new boolean[squares()][squares()];
    for (Join j : now.joins) tie(one, j.one / 4, j.other / 4);
    return groups(one, all(squares()));
  }

  private boolean comesHomeTurned(List<Join> joins) {
    boolean[][] can = new boolean[2 * squares()][2 * squares()];
    for (Join j : joins) {
      for (int h = 0; h < 2; h++) tie(can, j.one / 4 * 2 + h, j.other / 4 * 2 + (h ^ j.turned));
    }
    for (int k = 0; k < can.length; k++) {
      for (int a = 0; a < can.length; a++) {
        for (int b = 0; b < can.length; b++) can[a][b] |= can[a][k] && can[k][b];
      }
    }
    for (int s = 0; s < squares(); s++) {
      if (can[2 * s][2 * s + 1]) return true;
    }
    return false;
  }

  private int plain() {
    int least = 3;
    for (int out = 0; out < 1 << now.joins.size(); out++) {
      int n = Integer.bitCount(out);
      if (n >= least) continue;
      List<Join> left = new ArrayList<>();
      for (int j = 0; j < now.joins.size(); j++) {
        if ((out >> j & 1) == 0) left.add(now.joins.get(j));
      }
      if (!comesHomeTurned(left)) least = n;
    }
    ask(least < 3, 2);
    return least;
  }

  // ---- texts

  private int feed(long word, int n) {
    ask(in(n, 1, 9), 1);
    ask(now.tape.length() + n <= 60, 4);
    for (int i = 0; i < n; i++) {
      now.tape += (char) (word & 0xFF);
      word >>= 8;
    }
    return now.tape.length();
  }

  private int text(int use) {
    ask(in(use, 0, 2), 1);
    String t = now.tape;
    now.tape = "";
    int fault = fault(t, use == 0 ? "cdhj" : "was");
    if (fault >= 0) return -10 - fault;
    now.texts[use] = t;
    return 1;
  }

  private int untell(int use) {
    ask(in(use, 0, 2), 1);
    boolean was = now.texts[use] != null;
    now.texts[use] = null;
    return was ? 1 : 0;
  }

  /** What is open stands in a string: ( and !, and C for a comparison that has been used in its B. */
  private static int fault(String t, String names) {
    String open = "";
    boolean wantsValue = true;
    int digits = 0;
    for (int i = 0; i < t.length(); i++) {
      char b = t.charAt(i);
      if (wantsValue && (b == '!' || b == '(')) {
        if (open.replace("C", "").length() == 5) return i;
        open += b;
        continue;
      }
      boolean digit = b >= '0' && b <= '9';
      if (wantsValue && (digit || names.indexOf(b) >= 0)) {
        digits = digit ? 1 : 4;
        open = open.replaceAll("!+$", "");
        wantsValue = false;
        continue;
      }
      if (wantsValue) return i;
      if (digit && digits < 4) {
        digits++;
        continue;
      }
      digits = 4;
      if (b == ')') {
        open = open.replaceAll("C$", "");
        if (!open.endsWith("(")) return i;
        open = open.substring(0, open.length() - 1).replaceAll("!+$", "");
      } else if ("<=>".indexOf(b) >= 0) {
        if (open.endsWith("C")) return i;
        open += "C";
        wantsValue = true;
      } else if ("|&".indexOf(b) >= 0) {
        open = open.replaceAll("C$", "");
        wantsValue = true;
      } else if ("+-*/%".indexOf(b) >= 0) {
        wantsValue = true;
      } else {
        return i;
      }
    }
    return wantsValue || open.contains("(") ? t.length() : -1;
  }

  private static final String[] LEVELS = {"|", "&", "<=>", "+-", "*/%"};

  /** The value of a TEXT without FAULT: split at the last sign of the loosest level that stands outside of ( ). */
  private static int value(String t, String names, int[] values) {
    for (String level : LEVELS) {
      int depth = 0;
      for (int i = t.length() - 1; i >= 0; i--) {
        char b = t.charAt(i);
        if (b == ')') depth++;
        if (b == '(') depth--;
        if (depth == 0 && level.indexOf(b) >= 0) {
          int left = value(t.substring(0, i), names, values);
          int right = value(t.substring(i + 1), names, values);
          return combined(b, left, right);
        }
      }
    }
    if (t.charAt(0) == '!') return value(t.substring(1), names, values) == 0 ? 1 : 0;
    if (t.charAt(0) == '(') return value(t.substring(1, t.length() - 1), names, values);
    int name = names.indexOf(t.charAt(0));
    return name >= 0 ? values[name] : Integer.parseInt(t);
  }

  private static int combined(char sign, int l, int r) {
    if (sign == '+') return l + r;
    if (sign == '-') return l - r;
    if (sign == '*') return l * r;
    if (sign == '/') return r == 0 ? 0 : l / r;
    if (sign == '%') return r == 0 ? 0 : l % r;
    boolean is;
    if (sign == '<') is = l < r;
    else if (sign == '=') is = l == r;
    else if (sign == '>') is = l > r;
    else if (sign == '&') is = l != 0 && r != 0;
    else is = l != 0 || r != 0;
    return is ? 1 : 0;
  }

  private static int hold(int v, int least, int most) {
    return v < least ? least : v > most ? most : v;
  }

  // ---- ways

  /** The place behind a CROSSING and its HOURS; null at RIM. */
  private int[] crossing(int place, int edge) {
    int from = place / 2 * 4 + edge;
    for (Join j : now.joins) {
      if (j.one != from && j.other != from) continue;
      int square = (j.one == from ? j.other : j.one) / 4;
      int c = now.costs.get(place / 2);
      int hours = c;
      if (now.texts[0] != null) {
        int[] values = {c, now.costs.get(square), place % 2, j.turned};
        hours = hold(value(now.texts[0], "cdhj", values), 1, 999);
      }
      return new int[] {2 * square + (place % 2 ^ j.turned), hours};
    }
    return null;
  }

  private static final int FAR = 1 << 28;

  private int[][] allWays() {
    int n = 2 * squares();
    int[][] least = new int[n][n];
    for (int a = 0; a < n; a++) {
      for (int b = 0; b < n; b++) least[a][b] = a == b ? 0 : FAR;
      for (int e = 0; e < 4; e++) {
        int[] c = crossing(a, e);
        if (c != null) least[a][c[0]] = Math.min(least[a][c[0]], c[1]);
      }
    }
    for (int k = 0; k < n; k++) {
      for (int a = 0; a < n; a++) {
        for (int b = 0; b < n; b++) least[a][b] = Math.min(least[a][b], least[a][k] + least[k][b]);
      }
    }
    return least;
  }

  private boolean place(int p) {
    return in(p, 0, 2 * squares());
  }

  private int soonest(int from, int to) {
    ask(place(from) && place(to), 1);
    int least = allWays()[from][to];
    ask(least < FAR, 2);
    return least;
  }

  private int reached(int from) {
    ask(place(from), 1);
    int[] least = allWays()[from];
    int bits = 0;
    for (int p = 0; p < least.length; p++) bits += least[p] < FAR ? 1 << p : 0;
    return bits;
  }

  private int first(int from, int to) {
    ask(place(from) && place(to), 1);
    int[][] least = allWays();
    ask(least[from][to] < FAR && from != to, 2);
    for (int e = 0; e < 4; e++) {
      int[] c = crossing(from, e);
      if (c != null && c[1] + least[c[0]][to] == least[from][to]) return e;
    }
    throw new IllegalStateException("a way has a first edge");
  }

  // ---- walks

  private static boolean under(int kind, int above) {
    return switch (above) {
      case 0 -> true;
      case 1 -> kind == 1 || kind == 2 || kind == 3 || kind == 6;
      case 2 -> kind == 2 || kind == 6;
      default -> kind == above;
    };
  }

  private boolean has(int walk) {
    return in(walk, 0, now.walks.size());
  }

  private int walk(int kind, int square, int edges) {
    String digits = edges == 0 ? "" : String.valueOf(edges);
    ask(in(kind, 0, 7) && in(square, 0, squares()) && digits.matches("[1-4]{0,8}"), 1);
    ask(now.walks.size() < 10, 4);
    now.walks.add(new Walk(kind, square, digits, -1));
    return now.walks.size() - 1;
  }

  private int walkIs(int walk, int what) {
    ask(has(walk) && in(what, 0, 5), 1);
    Walk w = now.walks.get(walk);
    if (what == 0) return w.kind;
    if (what == 1) return w.square;
    if (what == 2) return w.edges.length();
    if (what == 3) return w.mark;
    return isSo(walk) ? 1 : 0;
  }

  /** Places gone by and HOURS behind them, as far as it can be gone. */
  private List<int[]> goes(int walk, int hand) {
    Walk w = now.walks.get(walk);
    List<int[]> by = new ArrayList<>();
    int[] at = {2 * w.square + hand, 0};
    by.add(at);
    for (char e : w.edges.toCharArray()) {
      int[] c = crossing(at[0], e - '1');
      if (c == null) break;
      at = new int[] {c[0], at[1] + c[1]};
      by.add(at);
    }
    return by;
  }

  private boolean whole(int walk, List<int[]> by) {
    return by.size() == now.walks.get(walk).edges.length() + 1;
  }

  private boolean isSo(int walk) {
    Walk w = now.walks.get(walk);
    List<int[]> by = goes(walk, 0);
    if (!whole(walk, by)) return false;
    int[] end = by.get(by.size() - 1);
    boolean home = end[0] / 2 == w.square;
    if (w.kind == 1) return home;
    if (w.kind == 2) return home && end[0] % 2 == 0;
    if (w.kind == 3) return home && end[0] % 2 == 1;
    if (w.kind == 5) return w.mark == -1 || w.mark == end[1];
    if (w.kind == 6) {
      long seen = by.stream().map(p -> p[0] / 2).distinct().count();
      return home && end[0] % 2 == 0 && seen == squares();
    }
    if (w.kind == 4) {
      if (!has(walk + 1)) return false;
      List<int[]> next = goes(walk + 1, 0);
      return whole(walk + 1, next) && next.get(next.size() - 1)[0] == end[0];
    }
    return true;
  }

  private int as(int walk, int kind) {
    ask(has(walk) && in(kind, 0, 7), 1);
    ask(under(now.walks.get(walk).kind, kind), 5);
    return now.walks.get(walk).edges.length();
  }

  private int set(int walk, int what, int v) {
    ask(has(walk), 1);
    Walk w = now.walks.get(walk);
    ask(what == 0 && in(v, 0, 7) || what == 3 && in(v, -1, 10000), 1);
    now.walks.set(walk, what == 0 ? new Walk(v, w.square, w.edges, w.mark) : new Walk(w.kind, w.square, w.edges, v));
    return what == 0 ? w.kind : w.mark;
  }

  private int gone(int walk, int hand, int what) {
    ask(has(walk) && in(hand, 0, 2) && in(what, 0, 3), 1);
    List<int[]> by = goes(walk, hand);
    ask(whole(walk, by), 3);
    if (what < 2) return by.get(by.size() - 1)[what];
    int turns = 0;
    for (int i = 1; i < by.size(); i++) turns += by.get(i)[0] % 2 != by.get(i - 1)[0] % 2 ? 1 : 0;
    return turns;
  }

  private int stops(int walk) {
    ask(has(walk), 1);
    List<int[]> by = goes(walk, 1);
    ask(!whole(walk, by), 2);
    return by.size() - 1;
  }

  // ---- people, things

  private int person(int place) {
    ask(place(place), 1);
    ask(now.people.size() < 6, 4);
    now.people.add(new Person(place, 0));
    return now.people.size() - 1;
  }

  private boolean isPerson(int p) {
    return in(p, 0, now.people.size());
  }

  private int personIs(int person, int what) {
    ask(isPerson(person) && in(what, 0, 2), 1);
    return what == 0 ? now.people.get(person).place : now.people.get(person).hours;
  }

  private boolean crosses(int person, int edge) {
    Person p = now.people.get(person);
    int[] c = crossing(p.place, edge);
    if (c == null) return false;
    now.people.set(person, new Person(c[0], hold(p.hours + c[1], 0, 999999)));
    return true;
  }

  private int cross(int person, int edge) {
    ask(isPerson(person) && in(edge, 0, 4), 1);
    ask(crosses(person, edge), 3);
    return now.people.get(person).place;
  }

  private int stroll(int person, int n) {
    ask(isPerson(person) && in(n, 1, 61), 1);
    for (int i = 0; i < n; i++) {
      now.z = (int) (now.z * 1103515245L + 12345L);
      crosses(person, (int) ((now.z & 0xFFFFFFFFL) >> 8) % 4);
    }
    return now.people.get(person).place;
  }

  private int meet(int one, int other, int what) {
    ask(isPerson(one) && isPerson(other) && one != other && in(what, 0, 3), 1);
    int a = now.people.get(one).place;
    int b = now.people.get(other).place;
    if (what == 0) return a == b ? 1 : 0;
    int[][] least = allWays();
    int both = FAR;
    int where = -1;
    for (int p = 2 * squares() - 1; p >= 0; p--) {
      if (least[a][p] + least[b][p] <= both) {
        both = least[a][p] + least[b][p];
        where = p / 2;
      }
    }
    ask(both < FAR, 2);
    return what == 1 ? both : where;
  }

  private int thing(int place, int worth, int alike) {
    ask(place(place) && in(worth, 0, 10000) && in(alike, 0, 2), 1);
    ask(now.things.size() < 6, 4);
    now.things.add(new Thing(place, worth, alike));
    return now.things.size() - 1;
  }

  private int price(Thing t, int itsHand, int hand) {
    int same = itsHand == hand ? 1 : 0;
    if (now.texts[1] == null) return t.alike == 1 || same == 1 ? t.worth : t.worth / 2;
    return hold(value(now.texts[1], "was", new int[] {t.worth, t.alike, same}), 0, 9999);
  }

  private int thingIs(int thing, int what) {
    ask(in(thing, 0, now.things.size()) && in(what, 0, 5), 1);
    Thing t = now.things.get(thing);
    if (what == 0) return t.place;
    if (what == 1) return t.worth;
    if (what == 2) return t.alike;
    return price(t, t.place % 2, what - 3);
  }

  private int bring(int person) {
    ask(isPerson(person), 1);
    Person p = now.people.get(person);
    int right = p.place / 2 * 2;
    int[][] least = allWays();
    int best = -1;
    int most = Integer.MIN_VALUE;
    for (int i = 0; i < now.things.size(); i++) {
      Thing t = now.things.get(i);
      int comes = least[t.place][right + 1] < least[t.place][right] ? right + 1 : right;
      int hours = least[t.place][comes];
      if (hours >= FAR) continue;
      int left = price(t, comes % 2, p.place % 2) - hours;
      if (left > most) {
        most = left;
        best = i;
      }
    }
    ask(best >= 0, 2);
    return best;
  }

  // ---- doubts

  private int bits(List<Integer> joins) {
    int bits = 0;
    for (int j : joins) bits += 1 << j;
    return bits;
  }

  private int doubt(int set) {
    List<Integer> doubted = new ArrayList<>();
    for (int j = 0; j < 32; j++) {
      if ((set >> j & 1) == 0) continue;
      ask(j < now.joins.size(), 1);
      doubted.add(j);
    }
    ask(doubted.size() <= 6, 1);
    int was = bits(now.doubted);
    now.doubted = doubted;
    return was;
  }

  private int fact(int walk, int odd) {
    ask(has(walk) && in(odd, 0, 2), 1);
    ask(now.facts.size() < 12, 4);
    now.facts.add(new Fact(walk, odd));
    return now.facts.size() - 1;
  }

  private int forget() {
    int were = now.facts.size();
    now.facts.clear();
    return were;
  }

  /** Whether the HAND behind a WALK is other than ahead; null if it can't be gone. */
  private Boolean odd(int walk) {
    List<int[]> by = goes(walk, 0);
    return whole(walk, by) ? by.get(by.size() - 1)[0] % 2 == 1 : null;
  }

  /** All lands as JOINS in DOUBT may be in which FACTS are so. */
  private List<List<Join>> agreeing() {
    List<List<Join>> ways = new ArrayList<>();
    List<Join> asTold = now.joins;
    for (int way = 0; way < 1 << now.doubted.size(); way++) {
      now.joins = new ArrayList<>(asTold);
      for (int d = 0; d < now.doubted.size(); d++) turn(now.doubted.get(d), way >> d & 1);
      boolean so = true;
      for (Fact f : now.facts) {
        Boolean odd = odd(f.walk);
        so &= odd != null && odd == (f.odd == 1);
      }
      if (so) ways.add(now.joins);
    }
    now.joins = asTold;
    return ways;
  }

  private int known(int join) {
    ask(in(join, 0, now.joins.size()), 1);
    if (!now.doubted.contains(join)) return now.joins.get(join).turned;
    List<List<Join>> ways = agreeing();
    ask(!ways.isEmpty(), 2);
    long turned = ways.stream().filter(way -> way.get(join).turned == 1).count();
    return turned == 0 ? 0 : turned == ways.size() ? 1 : 2;
  }

  private int test() {
    List<List<Join>> ways = agreeing();
    List<Join> asTold = now.joins;
    int best = -1;
    int least = 0;
    for (int w = 0; w < now.walks.size(); w++) {
      if (odd(w) == null) continue;
      int odds = 0;
      for (List<Join> way : ways) {
        now.joins = way;
        if (odd(w)) odds++;
      }
      now.joins = asTold;
      int greater = Math.max(odds, ways.size() - odds);
      if (best < 0 || greater < least) {
        best = w;
        least = greater;
      }
    }
    ask(best >= 0, 2);
    return best;
  }

  private int seed(int v) {
    int was = now.z;
    now.z = v;
    return was;
  }

  // ---- voices: real super calls

  private static class PlainWalk {
    final int k;
    final int n;
    final List<Integer> trace;

    PlainWalk(int k, int n, List<Integer> trace) {
      this.k = k;
      this.n = n;
      this.trace = trace;
    }

    int goes(int x) {
      trace.add(10);
      return x + k;
    }

    int turns(int x) {
      trace.add(11);
      return goes(x) * 2;
    }

    int meets(int x) {
      trace.add(12);
      return turns(x) - n;
    }

    int ends(int x) {
      trace.add(13);
      ask(n != k, 6);
      return x / (n - k);
    }
  }

  private static class PlainRound extends PlainWalk {
    PlainRound(int k, int n, List<Integer> trace) {
      super(k, n, trace);
    }

    @Override
    int goes(int x) {
      trace.add(20);
      return super.goes(x) - 7;
    }

    @Override
    int ends(int x) {
      trace.add(21);
      return super.ends(x) + turns(1);
    }
  }

  private static class PlainEven extends PlainRound {
    PlainEven(int k, int n, List<Integer> trace) {
      super(k, n, trace);
    }

    @Override
    int turns(int x) {
      trace.add(30);
      return 0 - super.turns(x);
    }
  }

  private static class PlainOdd extends PlainRound {
    PlainOdd(int k, int n, List<Integer> trace) {
      super(k, n, trace);
    }

    @Override
    int meets(int x) {
      trace.add(40);
      return super.meets(x / 2);
    }

    @Override
    int goes(int x) {
      trace.add(41);
      return super.goes(x) ^ k;
    }
  }

  private static class PlainPair extends PlainWalk {
    PlainPair(int k, int n, List<Integer> trace) {
      super(k, n, trace);
    }

    @Override
    int meets(int x) {
      trace.add(50);
      return super.meets(x + 1);
    }
  }

  private static class PlainTold extends PlainWalk {
    PlainTold(int k, int n, List<Integer> trace) {
      super(k, n, trace);
    }

    @Override
    int goes(int x) {
      trace.add(60);
      return 2;
    }

    @Override
    int turns(int x) {
      trace.add(61);
      return super.turns(x) + n;
    }
  }

  private static class PlainWhole extends PlainEven {
    PlainWhole(int k, int n, List<Integer> trace) {
      super(k, n, trace);
    }

    @Override
    int goes(int x) {
      trace.add(70);
      return super.goes(x) * 3;
    }

    @Override
    int ends(int x) {
      trace.add(71);
      return super.ends(x) - meets(0);
    }
  }

  private int voice(int walk, int voice, int x) {
    ask(has(walk) && in(voice, 0, 4), 1);
    trace = new ArrayList<>();
    int n = now.walks.get(walk).edges.length();
    PlainWalk w = switch (now.walks.get(walk).kind) {
      case 0 -> new PlainWalk(walk, n, trace);
      case 1 -> new PlainRound(walk, n, trace);
      case 2 -> new PlainEven(walk, n, trace);
      case 3 -> new PlainOdd(walk, n, trace);
      case 4 -> new PlainPair(walk, n, trace);
      case 5 -> new PlainTold(walk, n, trace);
      default -> new PlainWhole(walk, n, trace);
    };
    return switch (voice) {
      case 0 -> w.goes(x);
      case 1 -> w.turns(x);
      case 2 -> w.meets(x);
      default -> w.ends(x);
    };
  }

  private int body(int i) {
    ask(in(i, 0, Math.min(30, trace.size())), 2);
    return trace.get(i);
  }

  // ---- sheets, images, what is told

  private static int length(Object sheet) {
    return java.lang.reflect.Array.getLength(sheet);
  }

  private int sheet(int sheet, int bits, int n) {
    ask(in(sheet, 0, 4) && List.of(0, 8, 16, 32).contains(bits), 1);
    ask(bits == 0 || n >= 0, 3);
    ask(bits == 0 || n <= 24, 1);
    if (bits == 0) sheets[sheet] = null;
    if (bits == 8) sheets[sheet] = new byte[n];
    if (bits == 16) sheets[sheet] = new short[n];
    if (bits == 32) sheets[sheet] = new int[n];
    return 1;
  }

  private int put(int sheet, int i, int v) {
    ask(in(sheet, 0, 4), 1);
    ask(sheets[sheet] != null, 2);
    ask(in(i, 0, length(sheets[sheet])), 1);
    if (sheets[sheet] instanceof byte[] row) row[i] = (byte) v;
    if (sheets[sheet] instanceof short[] row) row[i] = (short) v;
    if (sheets[sheet] instanceof int[] row) row[i] = v;
    return 1;
  }

  private int move(int sheet, int i, int other, int j, int n) {
    ask(in(sheet, 0, 4) && in(other, 0, 4), 1);
    try {
      System.arraycopy(sheets[sheet], i, sheets[other], j, n);
      return n;
    } catch (NullPointerException missing) {
      throw new Refusal(2);
    } catch (ArrayStoreException unlike) {
      throw new Refusal(5);
    } catch (IndexOutOfBoundsException beyond) {
      throw new Refusal(1);
    }
  }

  private int number(int sheet, int i) {
    return (int) java.lang.reflect.Array.getLong(sheets[sheet], i);
  }

  private int joins(int sheet) {
    ask(in(sheet, 0, 4), 1);
    ask(sheets[sheet] != null, 2);
    int came = 0;
    try {
      for (int i = 0; i + 3 <= length(sheets[sheet]); i += 3) {
        join(number(sheet, i), number(sheet, i + 1), number(sheet, i + 2));
        came++;
      }
    } catch (Refusal isNoError) {
      return came;
    }
    return came;
  }

  private int image() {
    kept = now.copy();
    return ++images;
  }

  private int restore() {
    ask(kept != null, 2);
    now = kept.copy();
    return squares();
  }

  private int tell(int v) {
    ask(now.waiting.size() < 24, 4);
    now.waiting.add(v);
    return now.waiting.size();
  }

  private int check(int walk) {
    List<Integer> waited = now.waiting;
    now.waiting = new ArrayList<>();
    ask(has(walk), 1);
    List<int[]> by = goes(walk, 0);
    ask(whole(walk, by), 3);
    for (int i = 0; i < waited.size() || i < by.size(); i++) {
      if (i == waited.size() || i == by.size() || waited.get(i) != by.get(i)[0]) return 1 + i;
    }
    return 0;
  }

  private int count(int what) {
    ask(in(what, 0, 11), 1);
    int[] all = {
      squares(), now.joins.size(), now.walks.size(), now.people.size(), now.things.size(), now.facts.size(),
      now.tape.length(), now.waiting.size(), Math.min(30, trace.size()), now.z, bits(now.doubted)
    };
    return all[what];
  }

  private int told(int k) {
    ask(in(k, 1, 7), 1);
    return told[k];
  }
}
