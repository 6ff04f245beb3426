import java.math.BigInteger;
import java.util.ArrayList;
import java.util.Arrays;
import java.util.HashMap;
import java.util.List;
import java.util.Map;
import java.util.TreeMap;

/**
 * The document once more, told as plainly and as slowly as can be, with the whole Java library: what VeiledTable is
 * compared with. It shares no code with it, lists every way, and reckons with fractions of any size.
 */
final class Model {
  static final int NONE = -1, BAD = -2, STATE = -3, FULL = -4, MUCH = -5, NOTHING = -11, PLACE = -12, KIND = -13, SIZE = -14;
  static final long NO = -4611686018427387904L;
  private static final String[] WORDS = {"deal", "turn", "ask", "veil", "show", "forget", "toss", "peek"};

  /** A stage: kind, player, k. */
  private record Step(int kind, int p, int k) { }

  /** A rule: nothing is looked up in it but by its number among all rules. */
  private record Law(int test, int x, int y, int a, int b, int amount, int v) { }

  /** A set that a plan is for. */
  private record Spot(int p, int j, int view) { }

  /** Above and below, in lowest terms. */
  private record Fraction(BigInteger above, BigInteger below) {
    static final Fraction ZERO = new Fraction(BigInteger.ZERO, BigInteger.ONE);

    static Fraction of(BigInteger above, BigInteger below) {
      BigInteger cut = above.gcd(below);
      return new Fraction(above.divide(cut), below.divide(cut));
    }

    Fraction plus(Fraction other) {
      return of(above.multiply(other.below).add(other.above.multiply(below)), below.multiply(other.below));
    }

    Fraction times(BigInteger n) {
      return of(above.multiply(n), below);
    }

    Fraction by(Fraction other) {
      return of(above.multiply(other.below), below.multiply(other.above));
    }

    int compare(Fraction other) {
      return above.multiply(other.below).compareTo(other.above.multiply(below));
    }

    long part(int part) {
      return (part == 0 ? above : below).longValueExact();
    }
  }

  /** What an image keeps. */
  private static final class Kept {
    int m = 3;
    int[] worths = new int[5];
    List<Step> steps = new ArrayList<>();
    Map<Spot, Integer> plans = new HashMap<>();
    List<Law> laws = new ArrayList<>();
    BigInteger stake = BigInteger.ONE;

    Kept copy() {
      Kept other = new Kept();
      other.m = m;
      other.worths = worths.clone();
      other.steps = new ArrayList<>(steps);
      other.plans = new HashMap<>(plans);
      other.laws = new ArrayList<>(laws);
      other.stake = stake;
      return other;
    }
  }

  private Kept now = new Kept();
  private Kept image = null;
  private List<Integer> tape = new ArrayList<>();
  private final Step[][] racks = new Step[2][];
  private final int[] sorts = {-1, -1, -1, -1};
  private final int[][] sheets = new int[4][];
  private final Object[] hands = new Object[4];

  /** The amount that a hand holds: all rules as they were, and which of them. */
  private record Amount(List<Law> laws, int n) { }

  int pack(int m) {
    if (m < 1 || m > 5) return BAD;
    int was = now.m;
    now = new Kept();
    now.m = m;
    return was;
  }

  int worth(int card, int v) {
    if (card < 0 || card >= now.m || v < -9 || v > 9) return BAD;
    int was = now.worths[card];
    now.worths[card] = v;
    return was;
  }

  private static boolean isStep(int kind, int p, int k) {
    if (kind < 0 || kind > 7) return false;
    boolean noPlayer = kind == 1 || kind == 6;
    if (noPlayer ? p != 0 : p < 0 || p > 2) return false;
    boolean hasK = kind == 2 || kind == 3 || kind == 6 || kind == 7;
    return hasK ? k == 2 || k == 3 : k == 0;
  }

  private static boolean isCard(int kind) {
    return kind == 0 || kind == 1;
  }

  private static boolean isChoice(int kind) {
    return kind == 2 || kind == 3;
  }

  private int refusalOf(int kind, List<Step> steps) {
    if (steps.size() == 6) return FULL;
    long out = steps.stream().filter(s -> isCard(s.kind)).count();
    return isCard(kind) && out == now.m ? STATE : 0;
  }

  int stage(int kind, int p, int k) {
    if (!isStep(kind, p, k)) return BAD;
    int refused = refusalOf(kind, now.steps);
    if (refused != 0) return refused;
    now.steps.add(new Step(kind, p, k));
    return now.steps.size() - 1;
  }

  private int eyes(int i, int j) {
    Step own = now.steps.get(i);
    int eyes = own.kind == 0 || own.kind == 3 || own.kind == 7 ? 1 << own.p : 7;
    for (int t = i + 1; t < j; t++) {
      Step s = now.steps.get(t);
      if (s.kind == 4 && (eyes & 1 << s.p) != 0) eyes = 7;
      if (s.kind == 5) eyes &= 7 - (1 << s.p);
    }
    return eyes;
  }

  int stageOf(int i, int what) {
    if (i < 0 || i >= now.steps.size() || what < 0 || what > 3) return BAD;
    Step s = now.steps.get(i);
    return new int[] {s.kind, s.p, s.k, eyes(i, now.steps.size())}[what];
  }

  int seen(int i, int j) {
    if (j < 0 || j > now.steps.size() || i < 0 || i >= j) return BAD;
    return eyes(i, j);
  }

  int drop() {
    if (now.steps.isEmpty()) return STATE;
    now.steps.remove(now.steps.size() - 1);
    return now.steps.size();
  }

  /** All ways behind j stages, in order. */
  private List<int[]> all(int j) {
    List<int[]> ways = new ArrayList<>();
    ways.add(new int[0]);
    for (int i = 0; i < j; i++) {
      List<int[]> longer = new ArrayList<>();
      for (int[] way : ways) {
        for (int e : open(way, i)) {
          int[] next = Arrays.copyOf(way, i + 1);
          next[i] = e;
          longer.add(next);
        }
      }
      ways = longer;
    }
    return ways;
  }

  private List<Integer> open(int[] way, int i) {
    Step s = now.steps.get(i);
    List<Integer> open = new ArrayList<>();
    int range = isCard(s.kind) ? now.m : s.k == 0 ? 1 : s.k;
    for (int e = 0; e < range; e++) {
      boolean isOut = false;
      for (int t = 0; t < i; t++) {
        if (isCard(s.kind) && isCard(now.steps.get(t).kind) && way[t] == e) isOut = true;
      }
      if (!isOut) open.add(e);
    }
    return open;
  }

  private Fraction chanceOf(int[] way, int j) {
    Fraction chance = Fraction.of(BigInteger.ONE, BigInteger.ONE);
    for (int i = 0; i < j; i++) {
      int kind = now.steps.get(i).kind;
      if (isCard(kind) || kind == 6 || kind == 7) {
        BigInteger open = BigInteger.valueOf(open(way, i).size());
        chance = chance.by(Fraction.of(open, BigInteger.ONE));
      }
    }
    return chance;
  }

  private int viewOf(int p, int[] way, int j) {
    int view = 1;
    for (int i = 0; i < j; i++) {
      view *= 8;
      if ((eyes(i, j) >> p & 1) == 1) view += way[i] + 1;
    }
    return view;
  }

  private boolean isPoint(int j) {
    return j >= 0 && j <= now.steps.size();
  }

  private static boolean isPlayer(int p) {
    return p >= 0 && p <= 2;
  }

  int ways(int j) {
    return isPoint(j) ? all(j).size() : BAD;
  }

  private int[] wayAt(int way) {
    List<int[]> all = all(now.steps.size());
    return way < 0 || way >= all.size() ? null : all.get(way);
  }

  int happened(int way, int i) {
    int[] gone = wayAt(way);
    if (gone == null || i < 0 || i >= gone.length) return BAD;
    return gone[i];
  }

  long chance(int way, int part) {
    int[] gone = wayAt(way);
    if (gone == null || part < 0 || part > 1) return NO + BAD;
    return chanceOf(gone, gone.length).part(part);
  }

  int view(int p, int way, int j) {
    int[] gone = wayAt(way);
    if (!isPlayer(p) || gone == null || !isPoint(j)) return BAD;
    return viewOf(p, gone, j);
  }

  private List<Integer> like(int p, int j, long view) {
    List<Integer> like = new ArrayList<>();
    List<int[]> all = all(j);
    for (int w = 0; w < all.size(); w++) {
      if (viewOf(p, all.get(w), j) == view) like.add(w);
    }
    return like;
  }

  int worlds(int p, int j, int view) {
    return !isPlayer(p) || !isPoint(j) ? BAD : like(p, j, view).size();
  }

  int world(int p, int j, int view, int n) {
    if (!isPlayer(p) || !isPoint(j)) return BAD;
    List<Integer> like = like(p, j, view);
    return n < 0 || n >= like.size() ? PLACE : like.get(n);
  }

  private int chosen(Map<Spot, Integer> plans, int p, int j, int view) {
    Integer told = plans.get(new Spot(p, j, view));
    return told == null || told >= now.steps.get(j).k ? 0 : told;
  }

  private boolean isPlayed(Map<Spot, Integer> plans, int[] way, int j) {
    for (int i = 0; i < j; i++) {
      Step s = now.steps.get(i);
      if (isChoice(s.kind) && chosen(plans, s.p, i, viewOf(s.p, way, i)) != way[i]) return false;
    }
    return true;
  }

  long odds(int p, int j, int view, int i, int e, int part) {
    if (!isPlayer(p) || !isPoint(j) || i < 0 || i >= j || part < 0 || part > 1) return NO + BAD;
    Fraction whole = Fraction.ZERO;
    Fraction with = Fraction.ZERO;
    for (int[] way : all(j)) {
      if (viewOf(p, way, j) != view || !isPlayed(now.plans, way, j)) continue;
      whole = whole.plus(chanceOf(way, j));
      if (way[i] == e) with = with.plus(chanceOf(way, j));
    }
    if (whole.above.signum() == 0) return NO + NONE;
    return with.by(whole).part(part);
  }

  /** The sets of a player, in order, each with its ways. */
  private TreeMap<Spot, List<int[]>> setsOf(int p) {
    TreeMap<Spot, List<int[]>> sets = new TreeMap<>((a, b) -> a.j != b.j ? a.j - b.j : a.view - b.view);
    for (int j = 0; j < now.steps.size(); j++) {
      Step s = now.steps.get(j);
      if (!isChoice(s.kind) || s.p != p) continue;
      for (int[] way : all(j)) {
        sets.computeIfAbsent(new Spot(p, j, viewOf(p, way, j)), spot -> new ArrayList<>()).add(way);
      }
    }
    return sets;
  }

  int sets(int p) {
    return isPlayer(p) ? setsOf(p).size() : BAD;
  }

  int setOf(int p, int n, int what) {
    if (!isPlayer(p) || what < 0 || what > 3) return BAD;
    TreeMap<Spot, List<int[]>> sets = setsOf(p);
    if (n < 0 || n >= sets.size()) return PLACE;
    Spot spot = new ArrayList<>(sets.keySet()).get(n);
    if (what == 0) return spot.j;
    if (what == 1) return spot.view;
    return what == 2 ? sets.get(spot).size() : chosen(now.plans, p, spot.j, spot.view);
  }

  int recalls(int p) {
    if (!isPlayer(p)) return BAD;
    for (Map.Entry<Spot, List<int[]>> set : setsOf(p).entrySet()) {
      for (int i = 0; i < set.getKey().j; i++) {
        Step s = now.steps.get(i);
        if (!isChoice(s.kind) || s.p != p) continue;
        for (int[] way : set.getValue()) {
          int[] first = set.getValue().get(0);
          if (viewOf(p, way, i) != viewOf(p, first, i) || way[i] != first[i]) return 0;
        }
      }
    }
    return 1;
  }

  private boolean tell(Spot spot, int choice) {
    if (!now.plans.containsKey(spot) && now.plans.size() == 40) return false;
    now.plans.put(spot, choice);
    return true;
  }

  int plan(int p, int j, int view, int choice) {
    if (!isPlayer(p) || j < 0 || j >= now.steps.size()) return BAD;
    Step s = now.steps.get(j);
    if (!isChoice(s.kind) || s.p != p || choice < 0 || choice >= s.k) return BAD;
    if (like(p, j, view).isEmpty()) return NONE;
    int was = chosen(now.plans, p, j, view);
    return tell(new Spot(p, j, view), choice) ? was : FULL;
  }

  int lot(int seed) {
    int z = seed;
    int told = 0;
    for (int p = 0; p < 3; p++) {
      for (Spot spot : setsOf(p).keySet()) {
        z = z * 1103515245 + 12345;
        if (!tell(spot, (z >>> 8) % now.steps.get(spot.j).k)) return FULL;
        told++;
      }
    }
    return told;
  }

  int unplan() {
    int were = now.plans.size();
    now.plans.clear();
    return were;
  }

  int rule(int test, int x, int y, int a, int b, int amount, int v) {
    if (test < 0 || test > 4 || amount < 0 || amount > 4 || x < 0 || x > 7 || y < 0 || y > 7) return BAD;
    if (!isPlayer(a) || !isPlayer(b) || a == b || v < -99 || v > 99) return BAD;
    if (now.laws.size() == 8) return FULL;
    now.laws.add(new Law(test, x, y, a, b, amount, v));
    return now.laws.size() - 1;
  }

  private boolean isSo(List<Law> laws, int n, int[] way) {
    Law law = laws.get(n);
    if (law.test == 0) return true;
    if (law.test == 4) return law.x < n && !isSo(laws, law.x, way);
    if (law.x >= way.length || law.y >= way.length) return false;
    int x = way[law.x];
    int y = way[law.y];
    return law.test == 1 ? x == y : law.test == 2 ? x > y : (x + y) % 2 == 0;
  }

  private int amount(List<Law> laws, int n, int[] way) {
    Law law = laws.get(n);
    if (law.amount == 0) return law.v;
    if (law.amount == 3) return law.x < n ? amount(laws, law.x, way) + law.v : 0;
    if (law.x >= way.length) return 0;
    int x = way[law.x];
    if (law.amount == 1) return x < now.m ? law.v * now.worths[x] : 0;
    if (law.amount == 4) return x == 0 ? law.v * 2 : law.v;
    return law.y >= way.length ? 0 : law.v * (x - way[law.y]);
  }

  int ruleOf(int n, int way) {
    int[] gone = wayAt(way);
    if (n < 0 || n >= now.laws.size() || gone == null) return BAD;
    return isSo(now.laws, n, gone) ? amount(now.laws, n, gone) : 0;
  }

  int unrule() {
    if (now.laws.isEmpty()) return STATE;
    now.laws.remove(now.laws.size() - 1);
    return now.laws.size();
  }

  private BigInteger payOf(int p, int[] way) {
    long pay = 0;
    for (int n = 0; n < now.laws.size(); n++) {
      if (!isSo(now.laws, n, way)) continue;
      if (now.laws.get(n).a == p) pay -= amount(now.laws, n, way);
      if (now.laws.get(n).b == p) pay += amount(now.laws, n, way);
    }
    return BigInteger.valueOf(pay);
  }

  private static boolean isLong(BigInteger n) {
    return n.bitLength() <= 63;
  }

  long pay(int p, int way) {
    int[] gone = wayAt(way);
    if (!isPlayer(p) || gone == null) return NO + BAD;
    BigInteger won = payOf(p, gone).multiply(now.stake);
    return isLong(won) ? won.longValueExact() : NO + MUCH;
  }

  private Fraction meanBy(Map<Spot, Integer> plans, int p) {
    Fraction mean = Fraction.ZERO;
    for (int[] way : all(now.steps.size())) {
      if (!isPlayed(plans, way, way.length)) continue;
      mean = mean.plus(chanceOf(way, way.length).times(payOf(p, way)));
    }
    return mean;
  }

  long mean(int p, int part) {
    if (!isPlayer(p) || part < 0 || part > 1) return NO + BAD;
    Fraction mean = meanBy(now.plans, p).times(now.stake);
    return isLong(mean.above) ? mean.part(part) : NO + MUCH;
  }

  private boolean isMuch(int p) {
    BigInteger tries = BigInteger.ONE;
    for (Spot spot : setsOf(p).keySet()) tries = tries.multiply(BigInteger.valueOf(now.steps.get(spot.j).k));
    return tries.compareTo(BigInteger.valueOf(729)) > 0;
  }

  /** All plans for a player's sets, in order, with those of the others. */
  private List<Map<Spot, Integer>> tries(int p) {
    List<Map<Spot, Integer>> tries = new ArrayList<>();
    tries.add(new HashMap<>(now.plans));
    for (Spot spot : setsOf(p).keySet()) {
      List<Map<Spot, Integer>> more = new ArrayList<>();
      for (Map<Spot, Integer> plans : tries) {
        for (int choice = 0; choice < now.steps.get(spot.j).k; choice++) {
          Map<Spot, Integer> next = new HashMap<>(plans);
          next.put(spot, choice);
          more.add(next);
        }
      }
      tries = more;
    }
    return tries;
  }

  private Map<Spot, Integer> firstReply(int p) {
    Map<Spot, Integer> best = null;
    Fraction most = null;
    for (Map<Spot, Integer> plans : tries(p)) {
      Fraction mean = meanBy(plans, p);
      if (most != null && mean.compare(most) <= 0) continue;
      most = mean;
      best = plans;
    }
    return best;
  }

  /** How many means a reply asks for: a run is not to ask for too many. */
  long labour(int p) {
    return isMuch(p) ? 0 : (long) tries(p).size() * all(now.steps.size()).size();
  }

  long reply(int p, int part) {
    if (!isPlayer(p) || part < 0 || part > 1) return NO + BAD;
    if (isMuch(p)) return NO + MUCH;
    return meanBy(firstReply(p), p).part(part);
  }

  int better(int p) {
    if (!isPlayer(p)) return BAD;
    if (isMuch(p)) return MUCH;
    Map<Spot, Integer> best = firstReply(p);
    if (best.size() > 40) return FULL;
    int others = 0;
    for (Spot spot : setsOf(p).keySet()) {
      if (chosen(now.plans, p, spot.j, spot.view) != best.get(spot)) others++;
    }
    now.plans = best;
    return others;
  }

  int settled() {
    for (int p = 0; p < 3; p++) if (isMuch(p)) return MUCH;
    for (int p = 0; p < 3; p++) {
      if (meanBy(now.plans, p).compare(meanBy(firstReply(p), p)) != 0) return 0;
    }
    return 1;
  }

  int raise(long by) {
    if (by < 1 || by > 1000000000L) return BAD;
    BigInteger stake = now.stake.multiply(BigInteger.valueOf(by));
    if (!isLong(stake)) return MUCH;
    now.stake = stake;
    return 1;
  }

  int feed(int n, int bytes) {
    if (n < 1 || n > 4) return BAD;
    if (tape.size() + n > 120) return FULL;
    for (int i = 3; i > 3 - n; i--) tape.add((int) ((bytes & 0xFFFFFFFFL) >> 8 * i) & 255);
    return tape.size();
  }

  /** A token: where it begins, and what stands there; nothing at the end. */
  private record Token(int at, String says) { }

  private static List<Token> tokens(List<Integer> bytes) {
    StringBuilder all = new StringBuilder();
    for (int b : bytes) all.append((char) b);
    List<Token> tokens = new ArrayList<>();
    java.util.regex.Matcher m = java.util.regex.Pattern.compile("[a-z]+|[0-9]+|[^ ]").matcher(all);
    while (m.find()) tokens.add(new Token(m.start(), m.group()));
    tokens.add(new Token(bytes.size(), ""));
    return tokens;
  }

  private static int number(String says, int least, int most) {
    if (!says.matches("[0-9]+")) return -1;
    BigInteger value = new BigInteger(says);
    if (value.compareTo(BigInteger.valueOf(least)) < 0 || value.compareTo(BigInteger.valueOf(most)) > 0) return -1;
    return value.intValue();
  }

  int text() {
    List<Token> tokens = tokens(tape);
    tape = new ArrayList<>();
    List<Step> steps = new ArrayList<>(now.steps);
    int at = 0;
    while (true) {
      int kind = Arrays.asList(WORDS).indexOf(tokens.get(at).says);
      if (kind < 0 || refusalOf(kind, steps) != 0) return -100 - tokens.get(at).at;
      at++;
      int p = 0;
      int k = 0;
      if (kind != 1 && kind != 6) {
        p = number(tokens.get(at).says, 0, 2);
        if (p < 0) return -100 - tokens.get(at).at;
        at++;
      }
      if (kind == 2 || kind == 3 || kind == 6 || kind == 7) {
        k = number(tokens.get(at).says, 2, 3);
        if (k < 0) return -100 - tokens.get(at).at;
        at++;
      }
      steps.add(new Step(kind, p, k));
      if (tokens.get(at).says.isEmpty()) break;
      if (!tokens.get(at).says.equals(";")) return -100 - tokens.get(at).at;
      at++;
    }
    int told = steps.size() - now.steps.size();
    now.steps = steps;
    return told;
  }

  int rack(int r, int n) {
    if (r < 0 || r > 1 || n > 6) return BAD;
    if (n < 0 && n != -9) return SIZE;
    racks[r] = n == -9 ? null : new Step[n];
    return 1;
  }

  int lay(int r, int i, int stage) {
    if (r < 0 || r > 1 || stage < 0 || stage >= now.steps.size()) return BAD;
    if (racks[r] == null) return NOTHING;
    if (i < 0 || i >= racks[r].length) return PLACE;
    racks[r][i] = now.steps.get(stage);
    return 1;
  }

  int build(int r) {
    if (r < 0 || r > 1) return BAD;
    if (racks[r] == null) return NOTHING;
    now.steps = new ArrayList<>();
    for (Step s : racks[r]) {
      if (s == null || refusalOf(s.kind, now.steps) != 0) break;
      now.steps.add(s);
    }
    return now.steps.size();
  }

  int maybe(int s, int p, int j, int view, int i) {
    if (s < 0 || s > 3 || !isPlayer(p) || !isPoint(j) || i < 0 || i >= j) return BAD;
    sorts[s] = 0;
    sheets[s] = new int[5];
    List<int[]> all = all(j);
    for (int w : like(p, j, view)) sheets[s][all.get(w)[i]] = 1;
    return Arrays.stream(sheets[s]).sum();
  }

  int sheet(int s, int sort, int n) {
    if (s < 0 || s > 3 || sort < -1 || sort > 1 || sort != -1 && n > 40) return BAD;
    if (sort != -1 && n < 0) return SIZE;
    sorts[s] = sort;
    sheets[s] = sort == -1 ? null : new int[n];
    return 1;
  }

  int cell(int s, int i, int v) {
    if (s < 0 || s > 3) return BAD;
    if (sheets[s] == null) return NOTHING;
    if (i < 0 || i >= sheets[s].length) return PLACE;
    sheets[s][i] = sorts[s] == 0 && v != 0 ? 1 : v;
    return 1;
  }

  int read(int s, int i) {
    if (s < 0 || s > 3) return BAD;
    if (sheets[s] == null) return NOTHING;
    return i < 0 || i >= sheets[s].length ? PLACE : sheets[s][i];
  }

  int loadPlans(int s, int p) {
    if (s < 0 || s > 3 || !isPlayer(p)) return BAD;
    if (sheets[s] == null) return NOTHING;
    List<Spot> spots = new ArrayList<>(setsOf(p).keySet());
    int came = 0;
    for (int choice : sheets[s]) {
      if (came == spots.size() || choice < 0 || choice >= now.steps.get(spots.get(came).j).k) break;
      if (!tell(spots.get(came), choice)) break;
      came++;
    }
    return came;
  }

  private static int sortOf(Object held) {
    return held == null ? 0 : held instanceof Step ? 1 : held instanceof Amount ? 2 : 3;
  }

  int hold(int hand, int sort, long v) {
    if (hand < 0 || hand > 3 || sort < 0 || sort > 3) return BAD;
    if (sort == 1 && (v < 0 || v >= now.steps.size())) return BAD;
    if (sort == 2 && (v < 0 || v >= now.laws.size())) return BAD;
    int was = sortOf(hands[hand]);
    if (sort == 0) hands[hand] = null;
    if (sort == 1) hands[hand] = now.steps.get((int) v);
    if (sort == 2) hands[hand] = new Amount(new ArrayList<>(now.laws), (int) v);
    if (sort == 3) hands[hand] = v;
    return was;
  }

  int asStage(int hand, int kind) {
    if (hand < 0 || hand > 3 || kind < 0 || kind > 2) return BAD;
    if (hands[hand] == null) return NOTHING;
    if (!(hands[hand] instanceof Step s)) return KIND;
    boolean isChance = s.kind == 0 || s.kind == 1 || s.kind == 6 || s.kind == 7;
    boolean fits = kind == 2 || (kind == 0 ? isChoice(s.kind) : isChance);
    return fits ? s.kind : KIND;
  }

  int asAmount(int hand, int way) {
    int[] gone = wayAt(way);
    if (hand < 0 || hand > 3 || gone == null) return BAD;
    if (hands[hand] == null) return NOTHING;
    return hands[hand] instanceof Amount held ? amount(held.laws, held.n, gone) : KIND;
  }

  int asView(int hand, int p, int j) {
    if (hand < 0 || hand > 3 || !isPlayer(p) || !isPoint(j)) return BAD;
    if (hands[hand] == null) return NOTHING;
    return hands[hand] instanceof Long view ? like(p, j, view).size() : KIND;
  }

  int image() {
    image = now.copy();
    return now.steps.size();
  }

  int back() {
    if (image == null) return STATE;
    now = image.copy();
    return now.steps.size();
  }

  long count(int what) {
    if (what < 0 || what > 4) return NO + BAD;
    return what == 4 ? now.stake.longValueExact() : new int[] {now.m, now.steps.size(), now.plans.size(), now.laws.size()}[what];
  }
}
