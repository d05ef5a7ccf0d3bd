import java.util.ArrayList;
import java.util.List;

/** Looks at a land: the answers of many calls, by which two lands that should be as one are compared. */
final class Looks {
  /** One way to look; it may change the land, which is thrown away then. */
  interface Look {
    void at(TurnedLand x, List<Integer> seen);
  }

  static final List<Look> ALL = List.of(
      Looks::land, Looks::ways, Looks::walks, Looks::folk, Looks::doubts, Looks::voices,
      Looks::tapeForHours, Looks::tapeForPrices, Looks::texts, Looks::waiting, Looks::sheets, Looks::draws,
      behindRestore(Looks::land), behindRestore(Looks::ways), behindRestore(Looks::walks), behindRestore(Looks::folk),
      behindRestore(Looks::doubts), behindRestore(Looks::tapeForHours), behindRestore(Looks::texts),
      behindRestore(Looks::waiting), behindRestore(Looks::draws));

  private Looks() {
  }

  static List<Integer> seen(Look look, TurnedLand x) {
    List<Integer> seen = new ArrayList<>();
    look.at(x, seen);
    return seen;
  }

  private static Look behindRestore(Look look) {
    return (x, seen) -> {
      seen.add(x.restore());
      look.at(x, seen);
      seen.add(x.image());
    };
  }

  private static void counts(TurnedLand x, List<Integer> seen) {
    for (int what = 0; what <= 10; what++) seen.add(x.count(what));
  }

  private static void land(TurnedLand x, List<Integer> seen) {
    counts(x, seen);
    for (int s = 0; s < x.count(0); s++) {
      int was = x.cost(s, 1);
      seen.add(was);
      x.cost(s, was);
    }
    for (int j = 0; j < x.count(1); j++) {
      for (int what = 0; what <= 2; what++) seen.add(x.joinIs(j, what));
    }
    for (int e = 0; e < 4 * x.count(0); e++) seen.add(x.across(e));
    for (int what = 0; what <= 5; what++) seen.add(x.land(what));
    seen.add(x.plain());
  }

  private static void ways(TurnedLand x, List<Integer> seen) {
    int places = 2 * x.count(0);
    for (int p = 0; p < places; p++) {
      seen.add(x.reached(p));
      for (int to = 0; to < places; to += 2 + p % 2) seen.add(x.soonest(p, to));
      seen.add(x.first(0, p));
    }
  }

  private static void walks(TurnedLand x, List<Integer> seen) {
    for (int w = 0; w < x.count(2); w++) {
      for (int what = 0; what <= 4; what++) seen.add(x.walkIs(w, what));
      for (int hand = 0; hand <= 1; hand++) {
        for (int what = 0; what <= 2; what++) seen.add(x.gone(w, hand, what));
      }
      seen.add(x.stops(w));
      seen.add(x.voice(w, 2, 1000));
    }
  }

  private static void folk(TurnedLand x, List<Integer> seen) {
    counts(x, seen);
    int people = x.count(3);
    for (int p = 0; p < people; p++) {
      seen.add(x.personIs(p, 0));
      seen.add(x.personIs(p, 1));
      seen.add(x.bring(p));
      for (int q = 0; q < p; q++) {
        for (int what = 0; what <= 2; what++) seen.add(x.meet(p, q, what));
      }
    }
    for (int t = 0; t < x.count(4); t++) {
      for (int what = 0; what <= 4; what++) seen.add(x.thingIs(t, what));
    }
  }

  private static void doubts(TurnedLand x, List<Integer> seen) {
    counts(x, seen);
    seen.add(x.agree());
    for (int j = 0; j < x.count(1); j++) seen.add(x.known(j));
    seen.add(x.test());
    int all = (1 << x.count(1)) - 1;
    for (int six = 63; six <= all; six <<= 5) {
      x.doubt(six & all);
      seen.add(x.agree());
      for (int j = 0; j < x.count(1); j++) seen.add(x.known(j));
    }
    seen.add(x.forget());
    seen.add(x.agree());
  }

  private static void voices(TurnedLand x, List<Integer> seen) {
    seen.add(x.count(8));
    for (int i = 0; i <= x.count(8); i++) seen.add(x.body(i));
  }

  private static void tapeForHours(TurnedLand x, List<Integer> seen) {
    seen.add(x.count(6));
    seen.add(x.text(0));
    ways(x, seen);
  }

  private static void tapeForPrices(TurnedLand x, List<Integer> seen) {
    seen.add(x.text(1));
    folk(x, seen);
  }

  private static void texts(TurnedLand x, List<Integer> seen) {
    for (int use = 0; use <= 1; use++) seen.add(x.untell(use));
  }

  private static void waiting(TurnedLand x, List<Integer> seen) {
    seen.add(x.count(7));
    seen.add(x.check(0));
    seen.add(x.count(7));
  }

  /** The numbers of SHEETS show as JOINS in a land where no other ones are. */
  private static void sheets(TurnedLand x, List<Integer> seen) {
    while (x.count(1) > 0) x.part();
    for (int s = 0; s < 4; s++) {
      for (int other = 0; other < s; other++) seen.add(x.move(s, 0, other, 0, 0));
      for (int n = 1; n <= 24; n++) seen.add(x.move(s, 0, s, 0, n));
      seen.add(x.joins(s));
    }
    land(x, seen);
  }

  private static void draws(TurnedLand x, List<Integer> seen) {
    for (int p = 0; p < x.count(3); p++) {
      seen.add(x.stroll(p, 60));
      seen.add(x.count(9));
      seen.add(x.personIs(p, 1));
    }
  }
}
