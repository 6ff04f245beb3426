import java.io.IOException;
import java.math.BigInteger;

/** The edges of promises 15 to 29: sets, plans, rules, pay. */
public final class EdgesOfPlansTest {
  private static final int NONE = -1, BAD = -2, STATE = -3, FULL = -4, MUCH = -5, PLACE = -12;
  private static final long NO = VeiledTable.NO;
  private static final int ASK = 2, VEIL = 3;
  private static final int LEAST = 1 << 31, MOST = -1 >>> 1;
  private static final long GREATEST = -1L >>> 1, SMALLEST = 1L << 63;
  private static final int[] NO_PLAYERS = {-1, 3, LEAST, MOST};
  private static Edges edges;

  public static void main(String[] args) throws IOException {
    edges = new Edges();
    sets();
    setOf();
    recalls();
    plan();
    planRefused();
    lot();
    lotDraws();
    lotIsFull();
    unplan();
    rule();
    ruleRefused();
    ruleOf();
    unrule();
    pay();
    payIsMuch();
    mean();
    meanIsMuch();
    reply();
    replyIsMuch();
    replyAtMost();
    replyOfAnother();
    better();
    betterRefused();
    settled();
    raise();
    edges.end("EdgesOfPlansTest", 15, 29);
  }

  private static VeiledTable of(int cards, String text) {
    return Scenes.of(cards, text);
  }

  /** Player 2 has forty sets, of which so many are told; player 0 has two, of views 9 and 10, player 1 none. */
  private static VeiledTable told(int plans) {
    VeiledTable x = of(5, "toss 2;ask 0 2;deal 2;peek 2 2;veil 2 3");
    for (int n = 0; n < plans; n++) x.plan(2, 4, x.setOf(2, n, 1), 1);
    return x;
  }

  // ---- sets, plans

  private static void sets() {
    edges.of(15, "How many SETS a PLAYER has. BAD.");
    for (int p : NO_PLAYERS) edges.refused(Scenes::busy, "sets(" + p + ")", x -> x.sets(p), BAD);
    for (int p = 0; p < 3; p++) edges.is("of no stages", new VeiledTable().sets(p), 0);
    VeiledTable x = Scenes.busy();
    edges.is("by nothing", x.sets(0), 1);
    edges.is("by card and choice", x.sets(1), 8);
    edges.is("none", x.sets(2), 0);
    edges.is("the most: 5 * 4, and 3, 9, 27 times as many", of(5, "deal 0;turn;ask 0 3;ask 0 3;veil 0 3;ask 0 3").sets(0), 20 * 40);
  }

  private static void setOf() {
    edges.of(16, "Of a SET: 0 j, 1 VIEW, 2 how many WAYS, 3 what the PLANS choose there. BAD: p, what; PLACE: there is none such.");
    for (int p : NO_PLAYERS) edges.refused(Scenes::busy, "setOf(" + p + ", 0, 0)", x -> x.setOf(p, 0, 0), BAD);
    for (int what : new int[] {-1, 4, LEAST, MOST}) edges.refused(Scenes::busy, "setOf(0, 0, " + what + ")", x -> x.setOf(0, 0, what), BAD);
    for (int n : new int[] {-1, 8, LEAST, MOST}) {
      for (int what = 0; what < 4; what++) {
        int which = what;
        edges.refused(Scenes::busy, "setOf(1, " + n + ", " + what + ")", x -> x.setOf(1, n, which), PLACE);
      }
    }
    edges.refused(Scenes::busy, "setOf(2, 0, 0) of who has none", x -> x.setOf(2, 0, 0), PLACE);
    edges.refused(Scenes::fresh, "setOf(0, 0, 3) of none", x -> x.setOf(0, 0, 3), PLACE);
    VeiledTable x = Scenes.busy();
    for (int n = 0; n < 8; n++) {
      edges.is("j", x.setOf(1, n, 0), 2);
      edges.is("view", x.setOf(1, n, 1), 8 * (8 + n / 2 + 1) + n % 2 + 1);
      edges.is("one way", x.setOf(1, n, 2), 1);
      edges.is("what is told: 2, 1, or nothing", x.setOf(1, n, 3), n == 1 ? 2 : n == 3 ? 1 : 0);
    }
    edges.is("behind no stages", of(3, "veil 1 3").setOf(1, 0, 0), 0);
    edges.is("its view", of(3, "veil 1 3").setOf(1, 0, 1), 1);
    edges.is("its way", of(3, "veil 1 3").setOf(1, 0, 2), 1);
    edges.is("a set of many", of(5, "deal 0;deal 0;deal 0;deal 0;deal 0;veil 1 3").setOf(1, 0, 2), 120);
  }

  private static void recalls() {
    edges.of(17, "Whether a PLAYER RECALLS: 1, 0. BAD.");
    for (int p : NO_PLAYERS) edges.refused(Scenes::busy, "recalls(" + p + ")", x -> x.recalls(p), BAD);
    for (int p = 0; p < 3; p++) edges.is("who has no sets", new VeiledTable().recalls(p), 1);
    edges.is("who chooses once", Scenes.busy().recalls(1), 1);
    edges.is("who forgets", of(3, "veil 2 2;forget 2;ask 2 2").recalls(2), 0);
    edges.is("who doesn't", of(3, "veil 2 2;forget 1;ask 2 2").recalls(2), 1);
  }

  private static void plan() {
    edges.of(18, "A plan for that SET: what was chosen there.");
    VeiledTable x = of(3, "deal 2;veil 2 3;ask 1 2");
    edges.is("none was told", x.plan(2, 1, 9, 2), 0);
    edges.is("2 was", x.plan(2, 1, 9, 0), 2);
    edges.is("0 was", x.plan(2, 1, 9, 1), 0);
    edges.is("the greatest for two", x.plan(1, 2, 64, 1), 0);
    edges.is("count(2)", x.count(2), 2);
    x.drop();
    x.drop();
    x.stage(VEIL, 2, 2);
    x.plan(2, 1, 10, 1);
    x.drop();
    x.stage(VEIL, 2, 3);
    x.plan(2, 1, 11, 2);
    x.drop();
    x.stage(VEIL, 2, 2);
    edges.is("what isn't below k is not chosen", x.plan(2, 1, 11, 0), 0);
    edges.is("a plan of 0 is told too", x.count(2), 4);
  }

  private static void planRefused() {
    edges.of(18, "BAD: p, j, STAGE j is no ASK, VEIL of that PLAYER, choice; NONE: there is no such SET; FULL: 40 others are told");
    for (int p : NO_PLAYERS) edges.refused(Scenes::busy, "plan of player " + p, x -> x.plan(p, 1, 8, 0), BAD);
    for (int j : new int[] {-1, 5, 6, LEAST, MOST}) edges.refused(Scenes::busy, "plan for stage " + j, x -> x.plan(0, j, 8, 0), BAD);
    for (int j : new int[] {0, 3, 4}) edges.refused(Scenes::busy, "plan where none chooses, " + j, x -> x.plan(0, j, x.view(0, 0, j), 0), BAD);
    edges.refused(Scenes::busy, "plan for another's stage", x -> x.plan(0, 2, x.view(0, 0, 2), 0), BAD);
    edges.refused(Scenes::busy, "plan for another's stage", x -> x.plan(1, 1, 9, 0), BAD);
    for (int choice : new int[] {-1, 2, LEAST, MOST}) edges.refused(Scenes::busy, "plan of " + choice + " of two", x -> x.plan(0, 1, 8, choice), BAD);
    for (int choice : new int[] {-1, 3, 4, LEAST}) edges.refused(Scenes::busy, "plan of " + choice + " of three", x -> x.plan(1, 2, 74, choice), BAD);
    for (int view : new int[] {0, 1, 9, 64, -8, LEAST, MOST, 8 + LEAST}) edges.refused(Scenes::busy, "plan for view " + view, x -> x.plan(0, 1, view, 1), NONE);
    edges.refused(Scenes::fresh, "plan of no stages", x -> x.plan(0, 0, 1, 0), BAD);
    edges.refused(() -> told(40), "the forty-first", x -> x.plan(0, 1, 9, 1), FULL);
    edges.refused(() -> told(40), "the forty-first of 0", x -> x.plan(0, 1, 9, 0), FULL);
    VeiledTable x = told(39);
    edges.is("the fortieth", x.plan(0, 1, 9, 1), 0);
    edges.is("it again", x.plan(0, 1, 9, 0), 1);
    edges.is("another", x.plan(0, 1, 10, 1), FULL);
    edges.is("count(2)", x.count(2), 40);
  }

  private static void lot() {
    edges.of(19, "For all SETS of PLAYER 0, 1, 2, in order, by a DRAW of seed each (% k) a plan is told: how many.");
    edges.is("no sets", new VeiledTable().lot(7), 0);
    edges.is("no sets: no plan", of(3, "deal 0;toss 2").lot(7), 0);
    VeiledTable x = of(3, "deal 2;veil 2 3;ask 1 2;deal 0;ask 0 3");
    // 0 has a set for each choice of 1 and card of its own, 1 one set, 2 one for each card.
    int[] sets = {6, 1, 3};
    int[] fans = {3, 2, 3};
    edges.is("all sets", x.lot(99), 10);
    edges.is("count(2)", x.count(2), 10);
    int z = 99;
    for (int p = 0; p < 3; p++) {
      edges.is("sets", x.sets(p), sets[p]);
      for (int n = 0; n < sets[p]; n++) {
        z = drawn(z);
        edges.is("the draw of set " + n + " of " + p, x.setOf(p, n, 3), (z >>> 8) % fans[p]);
      }
    }
    edges.is("told again, how many still", x.lot(100), 10);
    edges.is("none comes twice", x.count(2), 10);
  }

  /** z * 1103515245 + 12345 as an int, by numbers of any size. */
  private static int drawn(int z) {
    return BigInteger.valueOf(z).multiply(BigInteger.valueOf(1103515245)).add(BigInteger.valueOf(12345)).intValue();
  }

  private static void lotDraws() {
    edges.of(Edges.TERMS, "A DRAW of z: z becomes z * 1103515245 + 12345 (an int), and gives z >>> 8");
    for (int seed : new int[] {0, 1, -1, MOST, LEAST, LEAST + 1, 1 << 30, 255, 256, -256, 1234567890, -987654321}) {
      VeiledTable x = of(3, "toss 3;toss 2;ask 0 3;veil 1 3");
      edges.is("lot(" + seed + ")", x.lot(seed), 6 + 18);
      int z = seed;
      for (int p = 0; p < 2; p++) {
        for (int n = 0; n < x.sets(p); n++) {
          z = drawn(z);
          int number = BigInteger.valueOf(z).and(BigInteger.valueOf(0xFFFFFFFFL)).shiftRight(8).intValue();
          edges.is("seed " + seed + ", set " + n + " of " + p, x.setOf(p, n, 3), number % 3);
        }
      }
    }
  }

  private static void lotIsFull() {
    edges.of(19, "FULL: it ends at the first that isn't told yet as 40 are; those ahead of it are told.");
    VeiledTable x = told(0);
    edges.is("two sets of 0, forty of 2", x.sets(0) + x.sets(2), 42);
    edges.refusedBut("lot(3)", x.lot(3), FULL);
    edges.is("forty are told", x.count(2), 40);
    int z = 3;
    for (int n = 0; n < 40; n++) {
      z = drawn(z);
      edges.is("those ahead are told", n < 2 ? x.setOf(0, n, 3) : x.setOf(2, n - 2, 3), (z >>> 8) % (n < 2 ? 2 : 3));
    }
    for (int n = 38; n < 40; n++) edges.is("those behind aren't", x.plan(2, 4, x.setOf(2, n, 1), 1), FULL);
    x = told(40);
    edges.refusedBut("forty of 2 are told: none for the first set of 0", x.lot(3), FULL);
    for (int n = 0; n < 40; n++) edges.is("it ends at the first", x.setOf(2, n, 3), 1);
    VeiledTable all = of(5, "toss 2;toss 2;deal 2;peek 2 2;veil 2 3");
    edges.is("forty sets", all.sets(2), 40);
    edges.is("just enough", all.lot(8), 40);
    edges.is("forty that are told already", all.lot(9), 40);
    int first = (drawn(9) >>> 8) % 3;
    z = 9;
    for (int n = 0; n < 40; n++) {
      z = drawn(z);
      edges.is("told again", all.setOf(2, n, 3), (z >>> 8) % 3);
    }
    all.stage(ASK, 0, 2);
    edges.refusedBut("the set of 0 comes first, and finds no room", all.lot(10), FULL);
    edges.is("none of 2 is told otherwise", all.setOf(2, 0, 3), first);
  }

  private static void unplan() {
    edges.of(20, "No PLANS are told: how many were.");
    edges.is("none were", new VeiledTable().unplan(), 0);
    VeiledTable x = Scenes.full();
    edges.is("forty were", x.unplan(), 40);
    edges.is("none is", x.count(2), 0);
    for (int n = 0; n < 45; n++) edges.is("none is told", x.setOf(0, n, 3), 0);
    edges.is("there is room again", x.plan(0, 3, x.setOf(0, 44, 1), 1), 0);
    edges.is("one was", x.unplan(), 1);
    edges.is("none were", x.unplan(), 0);
  }

  // ---- rules, pay

  private static void rule() {
    edges.of(21, "One more RULE: its number.");
    for (int test = 0; test <= 4; test++) {
      for (int amount = 0; amount <= 4; amount++) edges.is("rule", new VeiledTable().rule(test, 0, 7, 2, 0, amount, -99), 0);
    }
    VeiledTable x = new VeiledTable();
    for (int n = 0; n < 8; n++) edges.is("rule " + n, x.rule(0, n, 7 - n, n % 3, (n + 1) % 3, 0, 99), n);
    edges.is("how many", x.count(3), 8);
  }

  private static void ruleRefused() {
    edges.of(21, "BAD: test, amount, x or y (0 .. 7), a, b (unlike PLAYERS), v (-99 .. 99); FULL.");
    int[][] edge = {{-1, 5}, {-1, 8}, {-1, 8}, {-1, 3}, {-1, 3}, {-1, 5}, {-100, 100}};
    for (int at = 0; at < 7; at++) {
      for (int value : new int[] {edge[at][0], edge[at][1], LEAST, MOST}) {
        int[] r = {0, 0, 0, 0, 1, 0, 1};
        r[at] = value;
        edges.refused(Scenes::busy, "rule with " + value + " at " + at, x -> x.rule(r[0], r[1], r[2], r[3], r[4], r[5], r[6]), BAD);
      }
    }
    for (int p = 0; p < 3; p++) {
      int both = p;
      edges.refused(Scenes::busy, "rule from " + p + " to itself", x -> x.rule(0, 0, 0, both, both, 0, 1), BAD);
    }
    edges.refused(Scenes::full, "a ninth", x -> x.rule(0, 0, 0, 0, 1, 0, 1), FULL);
  }

  private static void ruleOf() {
    edges.of(22, "The amount of a RULE in a WAY, if its test is so; 0, if not. BAD.");
    for (int n : new int[] {-1, 3, 8, LEAST, MOST}) edges.refused(Scenes::busy, "ruleOf(" + n + ", 0)", x -> x.ruleOf(n, 0), BAD);
    for (int way : new int[] {-1, 72, LEAST, MOST}) edges.refused(Scenes::busy, "ruleOf(0, " + way + ")", x -> x.ruleOf(0, way), BAD);
    edges.refused(Scenes::fresh, "ruleOf(0, 0) of none", x -> x.ruleOf(0, 0), BAD);
    edges.refused(Scenes::full, "ruleOf(8, 0) of eight", x -> x.ruleOf(8, 0), BAD);
    VeiledTable x = Scenes.busy();
    edges.is("rule 0 is so in the last way: 7 times -9", x.ruleOf(0, 71), -63);
    edges.is("not in the first", x.ruleOf(0, 0), 0);
    edges.is("rule 1 is not, where rule 0 is", x.ruleOf(1, 71), 0);
    edges.is("rule 2: twice 5 with card 0", x.ruleOf(2, 0), 10);
    edges.is("rule 2: 3 and 2 are odd", x.ruleOf(2, 71), 0);
    VeiledTable y = new VeiledTable();
    y.rule(0, 0, 0, 0, 1, 0, -99);
    edges.is("the only way of no stages", y.ruleOf(0, 0), -99);
    edges.is("no other", y.ruleOf(0, 1), BAD);
  }

  private static void unrule() {
    edges.of(23, "The last RULE is no more: how many there are. STATE: there are none.");
    edges.refused(Scenes::fresh, "unrule() of none", x -> x.unrule(), STATE);
    VeiledTable x = Scenes.full();
    for (int n = 7; n >= 0; n--) edges.is("unrule()", x.unrule(), n);
    edges.is("none are left", x.unrule(), STATE);
    for (int n = 0; n < 8; n++) edges.is("there is room for eight", x.rule(0, 0, 0, 0, 1, 0, n), n);
    edges.is("the last is the last", x.unrule(), 7);
    edges.is("what is paid", x.ruleOf(6, 0), 6);
    edges.is("what isn't", x.ruleOf(7, 0), BAD);
  }

  private static void pay() {
    edges.of(24, "What a PLAYER wins in a WAY, times STAKE. BAD");
    for (int p : NO_PLAYERS) edges.refusedLong(Scenes::busy, "pay(" + p + ", 0)", x -> x.pay(p, 0), BAD);
    for (int way : new int[] {-1, 72, LEAST, MOST}) edges.refusedLong(Scenes::busy, "pay(0, " + way + ")", x -> x.pay(0, way), BAD);
    edges.refusedLong(Scenes::fresh, "pay(0, 1) of no stages", x -> x.pay(0, 1), BAD);
    edges.is("no rules, no stages", new VeiledTable().pay(0, 0), 0);
    edges.is("0 pays 24 to 2", Scenes.busy().pay(0, 0), -24 * 42);
    edges.is("1 gets 10 of 2", Scenes.busy().pay(1, 0), 10 * 42);
    edges.is("1 pays 0 -63", Scenes.busy().pay(0, 71), -63 * 42);
    edges.is("0 pays 63", Scenes.busy().pay(1, 71), 63 * 42);
  }

  /** Player 0 pays player 1 so many times the stake, whatever happens. */
  private static VeiledTable paying(int v, long... stake) {
    VeiledTable x = of(3, "toss 3;show 0");
    x.rule(0, 0, 0, 0, 1, 0, v);
    for (long by : stake) x.raise(by);
    return x;
  }

  private static void payIsMuch() {
    edges.of(24, "MUCH: it is none of 64 bits.");
    // 2^63 - 1 is 7 times 7 * 73 * 127 * 337 * 92737 * 649657.
    long[] seventh = {7 * 73 * 127, 337L * 92737, 649657};
    long[] power = {1L << 29, 1L << 29, 1L << 4};
    edges.is("2^63 - 1", paying(7, seventh).pay(1, 0), GREATEST);
    edges.is("-(2^63 - 1)", paying(7, seventh).pay(0, 0), -GREATEST);
    edges.is("-2^63", paying(2, power).pay(0, 0), SMALLEST);
    edges.refusedLong(() -> paying(2, power), "2^63", x -> x.pay(1, 0), MUCH);
    edges.refusedLong(() -> paying(8, seventh), "8 / 7 of 2^63 - 1", x -> x.pay(1, 0), MUCH);
    edges.refusedLong(() -> paying(8, seventh), "-8 / 7 of it", x -> x.pay(0, 0), MUCH);
    edges.refusedLong(() -> paying(3, power), "-3 * 2^62", x -> x.pay(0, 0), MUCH);
    edges.refusedLong(() -> paying(-99, seventh), "what would turn around", x -> x.pay(0, 0), MUCH);
    edges.is("times the greatest stake: 1", paying(1, 7 * seventh[0], seventh[1], seventh[2]).pay(1, 0), GREATEST);
    edges.is("times the greatest stake: 0", paying(0, 7 * seventh[0], seventh[1], seventh[2]).pay(1, 0), 0);
    edges.is("who has nothing to do with it", paying(99, power).pay(2, 0), 0);
    VeiledTable x = of(3, "toss 3");
    x.rule(1, 0, 0, 0, 1, 4, 1);
    for (long by : power) x.raise(by);
    edges.is("much in one way", x.pay(1, 0), NO + MUCH);
    edges.is("not in another", x.pay(1, 1), 1L << 62);
  }

  private static void mean() {
    edges.of(25, "What a PLAYER wins in the MEAN, times STAKE. BAD");
    for (int p : NO_PLAYERS) edges.refusedLong(Scenes::busy, "mean(" + p + ", 0)", x -> x.mean(p, 0), BAD);
    for (int part : new int[] {-1, 2, LEAST, MOST}) edges.refusedLong(Scenes::busy, "mean(0, " + part + ")", x -> x.mean(0, part), BAD);
    edges.is("no rules, no stages", new VeiledTable().mean(0, 0), 0);
    edges.is("1 below 0", new VeiledTable().mean(0, 1), 1);
    edges.is("for sure", paying(5).mean(1, 0), 5);
    edges.is("by one", paying(5).mean(1, 1), 1);
    edges.is("who pays", paying(5, 10).mean(0, 0), -50);
  }

  /** Player 1 gets v thirds, times the stake. */
  private static VeiledTable thirds(int v, long... stake) {
    VeiledTable x = of(3, "toss 3;show 0");
    // 1 if 0 comes up: one of three.
    x.rule(1, 0, 1, 0, 1, 0, v);
    for (long by : stake) x.raise(by);
    return x;
  }

  private static void meanIsMuch() {
    edges.of(25, "MUCH: its number above the line is none of 64 bits.");
    long[] seventh = {7 * 73 * 127, 337L * 92737, 649657};
    long[] power = {1L << 29, 1L << 29, 1L << 4};
    edges.is("2^63 - 1 of 3", thirds(7, seventh).mean(1, 0), GREATEST);
    edges.is("of 3", thirds(7, seventh).mean(1, 1), 3);
    edges.is("-(2^63 - 1) of 3", thirds(7, seventh).mean(0, 0), -GREATEST);
    edges.is("-2^63 of 3", thirds(2, power).mean(0, 0), SMALLEST);
    edges.is("of 3", thirds(2, power).mean(0, 1), 3);
    for (int part = 0; part < 2; part++) {
      int which = part;
      edges.refusedLong(() -> thirds(2, power), "2^63 of 3", x -> x.mean(1, which), MUCH);
      edges.refusedLong(() -> thirds(8, seventh), "8 / 7 of 2^63 - 1, of 3", x -> x.mean(1, which), MUCH);
      edges.refusedLong(() -> thirds(8, seventh), "-8 / 7 of it", x -> x.mean(0, which), MUCH);
      edges.refusedLong(() -> thirds(4, power), "what would turn around to 0", x -> x.mean(1, which), MUCH);
    }
    edges.is("who has nothing to do with it", thirds(99, power).mean(2, 0), 0);
    edges.is("in lowest terms it is one", thirds(4, 1000000000, 1000000000, 3).mean(1, 0), 4000000000000000000L);
    edges.is("by 1", thirds(4, 1000000000, 1000000000, 3).mean(1, 1), 1);
    edges.is("9 of 3 are 3 of 1: times 3 * 10^18", thirds(9, 1000000000, 1000000000, 3).mean(1, 0), 9000000000000000000L);
    edges.is("12 of 3 are 4 of 1", thirds(12, 1000000000, 1000000000, 3).mean(1, 0), NO + MUCH);
  }

  private static void reply() {
    edges.of(26, "REPLY (without STAKE). BAD");
    for (int p : NO_PLAYERS) edges.refusedLong(Scenes::busy, "reply(" + p + ", 0)", x -> x.reply(p, 0), BAD);
    for (int part : new int[] {-1, 2, LEAST, MOST}) edges.refusedLong(Scenes::busy, "reply(0, " + part + ")", x -> x.reply(0, part), BAD);
    edges.is("no rules, no stages", new VeiledTable().reply(0, 0), 0);
    edges.is("1 below 0", new VeiledTable().reply(0, 1), 1);
    edges.is("whatever the stake", thirds(99, 1000000000, 1000000000, 9).reply(1, 0), 33);
    edges.is("below 0", thirds(-98, 1000000000).reply(1, 0), -98);
    edges.is("of 3", thirds(-98, 1000000000).reply(1, 1), 3);
  }

  private static void replyIsMuch() {
    edges.of(26, "MUCH: there would be more than 729 ways to tell PLANS for all SETS of that PLAYER.");
    edges.is("729: six sets of three", of(3, "toss 3;toss 2;ask 0 3").reply(0, 1), 1);
    edges.is("512: nine sets of two", of(3, "toss 3;toss 3;ask 0 2").reply(0, 1), 1);
    edges.is("486: one of two, five of three", of(1, "ask 0 2;toss 2;forget 0;peek 0 3;veil 0 3").reply(0, 1), 1);
    // Six sets of three and one of two; eight of two and one of three.
    edges.refusedLong(() -> of(1, "ask 0 2;forget 0;peek 0 3;peek 0 2;veil 0 3"), "1458", x -> x.reply(0, 0), MUCH);
    edges.refusedLong(() -> of(1, "ask 0 3;forget 0;peek 0 2;peek 0 2;peek 0 2;veil 0 2"), "768", x -> x.reply(0, 0), MUCH);
    edges.refusedLong(() -> of(5, "deal 0;toss 2;ask 0 2"), "1024: ten of two", x -> x.reply(0, 1), MUCH);
    edges.refusedLong(Scenes::full, "forty-five of three", x -> x.reply(0, 0), MUCH);
    edges.is("another is not too much", Scenes.full().reply(2, 1) > 0 ? 1 : 0, 1);
    // 3^40 and 2^800 in 32 or 64 bits would be something else.
    edges.refusedLong(() -> of(5, "deal 0;turn;ask 0 3;ask 0 3;veil 0 3;ask 0 2"), "800 sets", x -> x.reply(0, 0), MUCH);
    edges.refusedLong(() -> of(5, "deal 0;toss 2;peek 0 2;peek 0 2;ask 0 2"), "2^40", x -> x.reply(0, 0), MUCH);
    edges.is("2^40 of player 0 alone", of(5, "deal 0;toss 2;peek 0 2;peek 0 2;ask 0 2;ask 1 2").reply(1, 1), 1);
  }

  private static int[] chosen(VeiledTable x, int p) {
    int[] all = new int[x.sets(p)];
    for (int n = 0; n < all.length; n++) all[n] = x.setOf(p, n, 3);
    return all;
  }

  private static void replyAtMost() {
    edges.of(Edges.TERMS, "the greatest MEAN of that one by any PLANS for all its SETS");
    // Nine sets of two: paid is what makes the last toss and the choice odd together.
    VeiledTable nine = of(3, "toss 3;toss 3;ask 0 2");
    nine.rule(3, 1, 2, 2, 0, 0, 0);
    nine.rule(4, 0, 0, 2, 0, 0, 7);
    edges.is("nine sets: always", nine.reply(0, 0), 7);
    edges.is("those that choose 1", nine.better(0), 6);
    edges.are("the choices", chosen(nine, 0), 1, 0, 1, 1, 0, 1, 1, 0, 1);
    // One set, and eight: of these the four that its choice leads to matter, in which even is paid.
    VeiledTable two = of(3, "ask 0 2;peek 0 2;toss 2;veil 0 2");
    two.rule(0, 0, 1, 2, 0, 2, 4);
    two.rule(3, 2, 3, 2, 0, 0, 7);
    edges.is("4 times 1 less a half, and 7", two.reply(0, 0), 9);
    edges.is("three choose 1", two.better(0), 3);
    edges.are("where it doesn't come to, the least", chosen(two, 0), 1, 0, 0, 0, 0, 0, 1, 0, 1);
    // Six sets of three, what was ahead forgotten between: like the toss each time, and like one another.
    VeiledTable six = of(3, "toss 3;veil 0 3;forget 0;toss 3;ask 0 3");
    six.rule(1, 0, 1, 2, 0, 0, 6);
    six.rule(1, 3, 4, 2, 0, 0, 3);
    six.rule(1, 1, 4, 2, 0, 0, 3);
    edges.is("6, 3, and 3 in one of three", six.reply(0, 0), 10);
    edges.is("by 1", six.reply(0, 1), 1);
    edges.is("four choose 1 or 2", six.better(0), 4);
    edges.are("the choices", chosen(six, 0), 0, 1, 2, 0, 1, 2);
    edges.is("that is its mean", six.mean(0, 0), 10);
  }

  private static void replyOfAnother() {
    edges.of(26, "REPLY (without STAKE).");
    VeiledTable x = of(3, "toss 3;ask 0 2");
    x.rule(0, 0, 0, 1, 0, 0, 50);
    edges.is("of a game", x.reply(0, 0), 50);
    edges.is("it rests", x.settled(), 1);
    x.pack(3);
    x.stage(ASK, 0, 2);
    x.rule(1, 0, 0, 1, 0, 0, 1);
    edges.is("of a smaller one, nothing is left of the first", x.reply(0, 0), 1);
    edges.is("nor for others", x.reply(1, 0), -1);
    edges.is("it rests too", x.settled(), 1);
  }

  private static void better() {
    edges.of(27, "PLANS of a PLAYER become FIRST REPLY, for each SET: how many of them choose otherwise than ahead.");
    edges.is("who has no sets", Scenes.busy().better(2), 0);
    VeiledTable x = of(3, "turn;ask 1 3;ask 0 2");
    x.rule(1, 0, 1, 0, 1, 0, 6);
    edges.is("two choose otherwise", x.better(1), 2);
    edges.is("each is told", x.count(2), 3);
    for (int n = 0; n < 3; n++) edges.is("as the card", x.setOf(1, n, 3), n);
    edges.is("none otherwise", x.better(1), 0);
    edges.is("its mean is its reply", x.mean(1, 0), x.reply(1, 0));
    x.plan(0, 2, x.setOf(0, 8, 1), 1);
    edges.is("all alike: the least, one otherwise", x.better(0), 1);
    for (int n = 0; n < 9; n++) edges.is("the least", x.setOf(0, n, 3), 0);
    edges.is("each is told", x.count(2), 12);
    VeiledTable y = of(3, "ask 0 3");
    y.plan(0, 0, 1, 2);
    y.drop();
    y.stage(ASK, 0, 2);
    y.rule(1, 0, 0, 0, 1, 4, 5);
    edges.is("0 is twice: 1 is better than what is chosen for a 2 that isn't below k", y.better(0), 1);
    y.unrule();
    y.plan(0, 0, 1, 0);
    edges.is("0 is chosen ahead, and is the least", y.better(0), 0);
  }

  private static void betterRefused() {
    edges.of(27, "BAD; MUCH as there; FULL: 40 would not do.");
    for (int p : NO_PLAYERS) edges.refused(Scenes::busy, "better(" + p + ")", x -> x.better(p), BAD);
    edges.refused(() -> of(5, "deal 0;toss 2;ask 0 2"), "better(0), 1024", x -> x.better(0), MUCH);
    edges.refused(() -> of(1, "ask 0 3;forget 0;peek 0 2;peek 0 2;peek 0 2;veil 0 2"), "better(0), 768", x -> x.better(0), MUCH);
    edges.is("729", of(3, "toss 3;toss 2;ask 0 3").better(0), 0);
    edges.refused(Scenes::full, "better(0) of many sets with forty plans", x -> x.better(0), MUCH);
    edges.refused(() -> told(39), "39 and two", x -> x.better(0), FULL);
    edges.refused(() -> told(40), "40 and two", x -> x.better(0), FULL);
    VeiledTable x = told(38);
    edges.is("38 and two", x.better(0), 0);
    edges.is("are forty", x.count(2), 40);
    edges.is("forty, both told", x.better(0), 0);
    VeiledTable y = told(38);
    y.plan(0, 1, 10, 1);
    edges.is("one of the two is told already", y.better(0), 1);
    edges.is("forty", y.count(2), 40);
    edges.is("who has no sets needs none", told(40).better(1), 0);
  }

  private static void settled() {
    edges.of(28, "Whether each PLAYER's MEAN is its REPLY: 1, 0. MUCH: as there, of any.");
    edges.is("no stages", new VeiledTable().settled(), 1);
    edges.is("whatever the stake", thirds(7, 1000000000, 1000000000, 9).settled(), 1);
    for (int p = 0; p < 3; p++) {
      String text = "deal " + p + ";toss 2;ask " + p + " 2";
      edges.refused(() -> of(5, text), "much of player " + p, x -> x.settled(), MUCH);
      VeiledTable x = of(3, "turn;ask " + p + " 3");
      x.rule(1, 0, 1, (p + 1) % 3, p, 0, 5);
      edges.is("player " + p + " could do better", x.settled(), 0);
      x.better(p);
      edges.is("player " + p + " can't", x.settled(), 1);
    }
    VeiledTable x = of(5, "ask 0 2;deal 2;toss 2;ask 2 2");
    x.rule(1, 0, 0, 0, 1, 4, 5);
    edges.is("much stands ahead of who could do better", x.settled(), MUCH);
    VeiledTable y = of(3, "toss 3;toss 2;ask 0 3;forget 1;veil 1 2");
    edges.is("729 are not too much", y.settled(), 1);
  }

  private static void raise() {
    edges.of(29, "STAKE becomes by (1 .. 1000000000) times it: 1. BAD; MUCH: it is none of 64 bits.");
    for (long by : new long[] {0, -1, -2, 1000000001L, SMALLEST, GREATEST, 1L << 32, (1L << 32) + 1}) {
      edges.refused(Scenes::busy, "raise(" + by + ")", x -> x.raise(by), BAD);
    }
    VeiledTable x = new VeiledTable();
    edges.is("the least", x.raise(1), 1);
    edges.is("count(4)", x.count(4), 1);
    edges.is("the greatest", x.raise(1000000000L), 1);
    edges.is("count(4)", x.count(4), 1000000000L);
    edges.refused(Scenes::full, "twice 2^63 - 1", y -> y.raise(2), MUCH);
    edges.refused(Scenes::full, "10^9 times 2^63 - 1", y -> y.raise(1000000000L), MUCH);
    edges.is("2^63 - 1 itself", Scenes.full().count(4), GREATEST);
    edges.is("once 2^63 - 1", Scenes.full().raise(1), 1);
    edges.refused(() -> paying(1, 1L << 29, 1L << 29, 1L << 4), "2^63", y -> y.raise(2), MUCH);
    edges.refused(() -> paying(1, 1L << 29, 1L << 29, 1L << 4), "2^64 would be 0", y -> y.raise(4), MUCH);
    VeiledTable y = paying(1, 1L << 29, 1L << 29, 1L << 3);
    edges.is("2^62", y.raise(2), 1);
    edges.is("count(4)", y.count(4), 1L << 62);
  }
}
