import java.io.IOException;

/** The edges that the document names under "Terms", parts 1 and 2, and in what it says of all calls. */
public final class EdgesOfTermsTest {
  private static final int NONE = -1, BAD = -2, STATE = -3, FULL = -4, MUCH = -5, NOTHING = -11, PLACE = -12, KIND = -13, SIZE = -14;
  private static final long NO = VeiledTable.NO;
  private static final int DEAL = 0, TURN = 1, ASK = 2, VEIL = 3, SHOW = 4, FORGET = 5, TOSS = 6, PEEK = 7;
  private static final int TERMS = Edges.TERMS;
  private static final int LEAST = 1 << 31, MOST = -1 >>> 1;
  private static Edges edges;

  public static void main(String[] args) throws IOException {
    edges = new Edges();
    fractions();
    refusals();
    refusalsOfLongs();
    theFirstRefusalStands();
    theFirstRefusalStandsOfTheHost();
    whatIsAskedChangesNothing();
    players();
    cards();
    stages();
    cardsComeOut();
    numbers();
    numbersOfChance();
    whoSees();
    show();
    forget();
    ways();
    chances();
    views();
    sets();
    recalls();
    plans();
    plansStay();
    fortyPlans();
    played();
    rulesAndWhoPays();
    tests();
    amounts();
    missingStages();
    missingRules();
    pays();
    means();
    replies();
    edges.end("EdgesOfTermsTest", TERMS, TERMS);
  }

  private static VeiledTable of(int cards, String text) {
    return Scenes.of(cards, text);
  }

  /** Who sees stage 0, 1, .. behind j stages. */
  private static int[] seers(VeiledTable x, int j) {
    int[] all = new int[j];
    for (int i = 0; i < j; i++) all[i] = x.seen(i, j);
    return all;
  }

  private static int[] way(VeiledTable x, int way) {
    int[] all = new int[(int) x.count(1)];
    for (int i = 0; i < all.length; i++) all[i] = x.happened(way, i);
    return all;
  }

  // ---- of all calls

  private static void fractions() {
    edges.of(TERMS, "FRACTIONS, which are told in lowest terms: part 0 above, 1 below the line (above 0; 1 for 0)");
    VeiledTable x = of(5, "toss 2;toss 2;peek 0 3");
    edges.is("chance: 1 of 12", x.chance(11, 0), 1);
    edges.is("chance: 1 of 12", x.chance(11, 1), 12);
    edges.is("odds: 6 of 12 are 1", x.odds(1, 3, 8 * (8 * (8 + 1) + 1), 2, 0, 0), 1);
    edges.is("odds: of 3", x.odds(1, 3, 8 * (8 * (8 + 1) + 1), 2, 0, 1), 3);
    edges.is("odds: 0", x.odds(1, 3, 8 * (8 * (8 + 1) + 1), 2, 4, 0), 0);
    edges.is("odds: 1 below 0", x.odds(1, 3, 8 * (8 * (8 + 1) + 1), 2, 4, 1), 1);
    edges.is("mean: 0", x.mean(0, 0), 0);
    edges.is("mean: 1 below 0", x.mean(0, 1), 1);
    x.rule(1, 0, 1, 0, 1, 0, 3);
    edges.is("mean: 6 times 3 of 12 are 3", x.mean(1, 0), 3);
    edges.is("mean: of 2", x.mean(1, 1), 2);
    edges.is("mean: above 0 alone is below 0", x.mean(0, 0), -3);
    edges.is("mean: below the line it is above 0", x.mean(0, 1), 2);
    edges.is("reply: above 0 alone is below 0", x.reply(0, 0), -3);
    edges.is("reply: below the line it is above 0", x.reply(0, 1), 2);
    x.rule(1, 0, 1, 1, 0, 0, 3);
    edges.is("mean: what cancels is 0", x.mean(1, 0), 0);
    edges.is("mean: 1 below 0", x.mean(1, 1), 1);
    edges.is("reply: 1 below 0", x.reply(1, 1), 1);
  }

  private static void refusals() {
    edges.of(TERMS, "A call that is refused answers NONE (-1), BAD (-2), STATE (-3), FULL (-4), MUCH (-5), or by the host NOTHING (-11), PLACE (-12), KIND (-13), SIZE (-14)");
    VeiledTable x = of(1, "turn;ask 0 2");
    edges.is("NONE", VeiledTable.NONE, -1);
    edges.is("a plan for no set", x.plan(0, 1, 8, 0), -1);
    edges.is("BAD", VeiledTable.BAD, -2);
    edges.is("a pack of none", x.pack(0), -2);
    edges.is("STATE", VeiledTable.STATE, -3);
    edges.is("a second card of one", x.stage(TURN, 0, 0), -3);
    edges.is("FULL", VeiledTable.FULL, -4);
    edges.is("a hundred and twenty-first byte", Scenes.full().feed(1, 0), -4);
    edges.is("MUCH", VeiledTable.MUCH, -5);
    edges.is("more than the greatest stake", Scenes.full().raise(2), -5);
    edges.is("NOTHING", VeiledTable.NOTHING, -11);
    edges.is("no rack", x.build(0), -11);
    edges.is("PLACE", VeiledTable.PLACE, -12);
    edges.is("a set behind the last", x.setOf(0, 1, 0), -12);
    edges.is("KIND", VeiledTable.KIND, -13);
    x.hold(0, 1, 0);
    edges.is("a stage is no view", x.asView(0, 0, 0), -13);
    edges.is("SIZE", VeiledTable.SIZE, -14);
    edges.is("a row of less than none", x.sheet(0, 0, -1), -14);
  }

  private static void refusalsOfLongs() {
    edges.of(TERMS, "where a long is answered NO (-4611686018427387904) and that one, together");
    VeiledTable x = of(3, "veil 0 2");
    edges.is("NO", NO, -4611686018427387904L);
    edges.is("chance", x.chance(2, 0), -4611686018427387906L);
    edges.is("odds", x.odds(0, 1, 9, 1, 0, 0), -4611686018427387906L);
    edges.is("odds of none", x.odds(0, 1, 10, 0, 0, 0), -4611686018427387905L);
    edges.is("pay", x.pay(3, 0), -4611686018427387906L);
    edges.is("mean", x.mean(3, 0), -4611686018427387906L);
    edges.is("reply", x.reply(3, 0), -4611686018427387906L);
    edges.is("count", x.count(5), -4611686018427387906L);
    VeiledTable y = Scenes.full();
    y.unrule();
    y.rule(0, 0, 0, 0, 1, 0, 99);
    edges.is("pay that is much", y.pay(1, 0), -4611686018427387909L);
    edges.is("reply that is much", y.reply(0, 0), -4611686018427387909L);
  }

  private static void theFirstRefusalStands() {
    edges.of(TERMS, "of several the one that stands first with it");
    VeiledTable x = of(1, "turn;ask 0 2;ask 0 2;ask 0 2;ask 0 2;ask 0 2");
    edges.is("stage: BAD, FULL, STATE", x.stage(DEAL, 3, 0), BAD);
    edges.is("stage: FULL, STATE", x.stage(DEAL, 0, 0), FULL);
    edges.is("world: BAD, PLACE", x.world(3, 0, 1, 5), BAD);
    edges.is("world: BAD, PLACE", x.world(0, 7, 1, 5), BAD);
    edges.is("odds: BAD, NONE", x.odds(0, 1, 0, 0, 0, 2), NO + BAD);
    edges.is("setOf: BAD, PLACE", x.setOf(0, 99, 4), BAD);
    edges.is("setOf: BAD, PLACE", x.setOf(3, 99, 0), BAD);
    VeiledTable y = Scenes.full();
    int untold = y.setOf(0, 44, 1);
    edges.is("plan: BAD, NONE, FULL", y.plan(0, 3, 0, 3), BAD);
    edges.is("plan: NONE, FULL", y.plan(0, 3, 0, 0), NONE);
    edges.is("plan: BAD, FULL", y.plan(0, 3, untold, 3), BAD);
    edges.is("plan: FULL", y.plan(0, 3, untold, 0), FULL);
    edges.is("rule: BAD, FULL", y.rule(5, 0, 0, 0, 1, 0, 0), BAD);
    edges.is("rule: BAD, FULL", y.rule(0, 0, 0, 1, 1, 0, 0), BAD);
    edges.is("rule: FULL", y.rule(0, 0, 0, 0, 1, 0, 0), FULL);
    y.unrule();
    y.rule(0, 0, 0, 0, 1, 0, 99);
    edges.is("pay: BAD, MUCH", y.pay(1, y.ways(6)), NO + BAD);
    edges.is("mean: BAD, MUCH", y.mean(1, 2), NO + BAD);
    edges.is("reply: BAD, MUCH", y.reply(0, 2), NO + BAD);
    edges.is("better: BAD", y.better(3), BAD);
    edges.is("better: MUCH, FULL", y.better(0), MUCH);
    edges.is("raise: BAD, MUCH", y.raise(1000000001L), BAD);
    edges.is("feed: BAD, FULL", y.feed(5, 0), BAD);
    edges.is("feed: FULL", y.feed(4, 0), FULL);
  }

  private static void theFirstRefusalStandsOfTheHost() {
    edges.of(TERMS, "of several the one that stands first with it");
    VeiledTable x = of(3, "toss 2");
    edges.is("rack: BAD, SIZE", x.rack(2, -1), BAD);
    edges.is("lay: BAD, NOTHING", x.lay(0, 0, 1), BAD);
    edges.is("lay: BAD, NOTHING", x.lay(2, 0, 0), BAD);
    edges.is("lay: NOTHING, PLACE", x.lay(0, 9, 0), NOTHING);
    x.rack(0, 1);
    edges.is("lay: BAD, PLACE", x.lay(0, 9, 1), BAD);
    edges.is("lay: PLACE", x.lay(0, 9, 0), PLACE);
    edges.is("build: BAD", x.build(2), BAD);
    edges.is("sheet: BAD, SIZE", x.sheet(4, 0, -1), BAD);
    edges.is("sheet: BAD, SIZE", x.sheet(0, 2, -1), BAD);
    edges.is("cell: BAD, NOTHING", x.cell(4, 0, 0), BAD);
    edges.is("cell: NOTHING, PLACE", x.cell(0, -1, 0), NOTHING);
    edges.is("read: BAD, NOTHING", x.read(4, 0), BAD);
    edges.is("read: NOTHING, PLACE", x.read(0, 41), NOTHING);
    edges.is("loadPlans: BAD, NOTHING", x.loadPlans(0, 3), BAD);
    edges.is("asStage: BAD, NOTHING", x.asStage(0, 3), BAD);
    edges.is("asAmount: BAD, NOTHING", x.asAmount(0, 2), BAD);
    edges.is("asView: BAD, NOTHING", x.asView(0, 0, 2), BAD);
    x.hold(0, 1, 0);
    edges.is("asStage: BAD, KIND", x.asStage(0, -1), BAD);
    edges.is("asAmount: BAD, KIND", x.asAmount(0, 2), BAD);
    edges.is("asView: BAD, KIND", x.asView(0, 3, 0), BAD);
    edges.is("hold: BAD", x.hold(0, 4, -1), BAD);
  }

  private static void whatIsAskedChangesNothing() {
    edges.of(TERMS, "What is asked changes nothing, but where told");
    int view = 8 * (8 * (8 * 8 + 1) + 1) + 1;
    edges.leaves(Scenes::busy, "stageOf", x -> x.stageOf(4, 2), 3);
    edges.leaves(Scenes::busy, "seen", x -> x.seen(0, 3), 2);
    edges.leaves(Scenes::busy, "ways", x -> x.ways(5), 4 * 2 * 3 * 3);
    edges.leaves(Scenes::busy, "happened", x -> x.happened(71, 0), 3);
    edges.leaves(Scenes::busy, "chance", x -> x.chance(71, 1), 12);
    edges.leaves(Scenes::busy, "view", x -> x.view(2, 0, 3), 8 * (8 * 8 + 1));
    edges.leaves(Scenes::busy, "worlds", x -> x.worlds(2, 3, 8 * (8 * 8 + 1)), 12);
    edges.leaves(Scenes::busy, "world", x -> x.world(2, 3, 8 * (8 * 8 + 1), 11), 20);
    edges.leaves(Scenes::busy, "odds", x -> x.odds(2, 3, 8 * (8 * 8 + 2), 0, 1, 1), 4);
    edges.leaves(Scenes::busy, "sets", x -> x.sets(1), 8);
    edges.leaves(Scenes::busy, "setOf", x -> x.setOf(1, 0, 2), 1);
    edges.leaves(Scenes::busy, "recalls", x -> x.recalls(1), 1);
    edges.leaves(Scenes::busy, "ruleOf", x -> x.ruleOf(1, 0), -11 + 35);
    edges.leaves(Scenes::busy, "pay", x -> x.pay(2, 0), (24 - 10) * 42);
    // 14, -2, -5, 0 for the four cards, by plans, times 42.
    edges.leaves(Scenes::busy, "mean", x -> x.mean(2, 0), 147);
    edges.leaves(Scenes::busy, "mean", x -> x.mean(2, 1), 2);
    edges.leaves(Scenes::full, "mean", x -> x.mean(2, 2), NO + BAD);
    edges.leaves(Scenes::busy, "reply", x -> x.reply(0, 1) > 0 ? 1 : 0, 1);
    edges.leaves(Scenes::busy, "settled", x -> x.settled(), MUCH);
    edges.leaves(() -> of(3, "deal 0;ask 0 2;ask 1 3"), "settled", x -> x.settled(), 1);
    edges.leaves(Scenes::busy, "read", x -> x.read(1, 39), -7);
    edges.leaves(Scenes::busy, "asStage", x -> x.asStage(0, 0), VEIL);
    edges.leaves(Scenes::busy, "asAmount", x -> x.asAmount(1, 0), -11 + 35);
    edges.leaves(Scenes::busy, "asView", x -> x.asView(2, 2, 2), 0);
    edges.leaves(Scenes::busy, "count", x -> x.count(4), 42);
    edges.leaves(Scenes::busy, "worlds of a whole view", x -> x.worlds(2, 4, view), 0);
  }

  // ---- part 1: the pack, stages, ways, views, sets

  private static void players() {
    edges.of(TERMS, "PLAYERS are 0, 1, 2.");
    for (int p : new int[] {-1, 0, 1, 2, 3, 4, LEAST, MOST}) {
      boolean isOne = p >= 0 && p <= 2;
      for (int kind : new int[] {DEAL, ASK, VEIL, SHOW, FORGET, PEEK}) {
        int k = kind == DEAL || kind == SHOW || kind == FORGET ? 0 : 3;
        edges.is("a stage of kind " + kind + " of " + p, new VeiledTable().stage(kind, p, k), isOne ? 0 : BAD);
      }
      VeiledTable x = of(3, "turn;veil " + (isOne ? p : 0) + " 2");
      x.sheet(0, 0, 0);
      x.hold(0, 3, 1);
      edges.is("view of " + p, x.view(p, 0, 1), isOne ? 9 : BAD);
      edges.is("worlds of " + p, x.worlds(p, 0, 1), isOne ? 1 : BAD);
      edges.is("world of " + p, x.world(p, 1, 9, 0), isOne ? 0 : BAD);
      edges.is("odds of " + p, x.odds(p, 1, 9, 0, 0, 0), isOne ? 1 : NO + BAD);
      edges.is("sets of " + p, x.sets(p), isOne ? 3 : BAD);
      edges.is("a set of " + p, x.setOf(p, 0, 0), isOne ? 1 : BAD);
      edges.is("recalls " + p, x.recalls(p), isOne ? 1 : BAD);
      edges.is("a plan of " + p, x.plan(p, 1, 9, 1), isOne ? 0 : BAD);
      edges.is("plans from a sheet of " + p, x.loadPlans(0, p), isOne ? 0 : BAD);
      edges.is("pays " + p, x.rule(0, 0, 0, p, p == 0 ? 1 : 0, 0, 1), isOne ? 0 : BAD);
      edges.is("is paid: " + p, x.rule(0, 0, 0, p == 0 ? 1 : 0, p, 0, 1), isOne ? 1 : BAD);
      edges.is("pay of " + p, x.pay(p, 0), isOne ? 0 : NO + BAD);
      edges.is("mean of " + p, x.mean(p, 1), isOne ? 1 : NO + BAD);
      edges.is("reply of " + p, x.reply(p, 0), isOne ? 0 : NO + BAD);
      edges.is("better " + p, x.better(p), isOne ? 1 : BAD);
      edges.is("maybe for " + p, x.maybe(0, p, 1, 9, 0), isOne ? 1 : BAD);
      edges.is("as a view of " + p, x.asView(0, p, 0), isOne ? 1 : BAD);
    }
  }

  private static void cards() {
    edges.of(TERMS, "THE PACK has CARDS 0 .. m - 1 (m 1 .. 5; 3 at first)");
    VeiledTable first = new VeiledTable();
    edges.is("a new one: card 2", first.worth(2, 0), 0);
    edges.is("a new one: card 3", first.worth(3, 0), BAD);
    for (int m = 1; m <= 5; m++) {
      VeiledTable x = of(m, "turn");
      edges.is("card " + (m - 1) + " of " + m, x.worth(m - 1, 0), 0);
      edges.is("card " + m + " of " + m, x.worth(m, 0), BAD);
      edges.is("turned up, the last way", x.happened(m - 1, 0), m - 1);
      edges.is("turned up, behind the last way", x.happened(m, 0), BAD);
    }
    edges.of(TERMS, "each with a WORTH (-9 .. 9; 0 at first)");
    for (int card = 0; card < 3; card++) {
      edges.is("at first", first.worth(card, 9), 0);
      edges.is("the greatest", first.worth(card, -9), 9);
      edges.is("the least", first.worth(card, 0), -9);
      edges.is("too great", first.worth(card, 10), BAD);
      edges.is("too small", first.worth(card, -10), BAD);
    }
  }

  private static void stages() {
    edges.of(TERMS, "STAGES are numbered from 0 on as they come, 6 at most");
    int[][] kinds = {{DEAL, 0, 0}, {TURN, 0, 0}, {ASK, 0, 2}, {VEIL, 0, 2}, {SHOW, 0, 0}, {FORGET, 0, 0}, {TOSS, 0, 2}, {PEEK, 0, 2}};
    for (int[] last : kinds) {
      VeiledTable x = new VeiledTable();
      for (int n = 0; n < 6; n++) edges.is("a stage", x.stage(TOSS, 0, 2), n);
      edges.is("a seventh of kind " + last[0], x.stage(last[0], last[1], last[2]), FULL);
      edges.is("there are six", x.count(1), 6);
    }
    edges.of(TERMS, "with a PLAYER p (of turn, toss: 0), and k");
    for (int[] kind : kinds) {
      boolean isAnyones = kind[0] != TURN && kind[0] != TOSS;
      for (int p = -1; p <= 3; p++) {
        VeiledTable x = new VeiledTable();
        boolean isRight = p == 0 || isAnyones && p > 0 && p < 3;
        edges.is("kind " + kind[0] + " of player " + p, x.stage(kind[0], p, kind[2]), isRight ? 0 : BAD);
        if (isRight) edges.is("its player", x.stageOf(0, 1), p);
      }
    }
    edges.of(TERMS, "(k of others is 0.)");
    for (int[] kind : kinds) {
      for (int k = -1; k <= 4; k++) {
        boolean isRight = kind[2] == 0 ? k == 0 : k == 2 || k == 3;
        edges.is("kind " + kind[0] + " with k " + k, new VeiledTable().stage(kind[0], 0, k), isRight ? 0 : BAD);
      }
    }
  }

  private static void cardsComeOut() {
    edges.of(TERMS, "a CARD that is still in THE PACK comes out, each alike likely");
    for (int m = 1; m <= 5; m++) {
      VeiledTable x = new VeiledTable();
      x.pack(m);
      int ways = 1;
      for (int n = 0; n < m; n++) {
        x.stage(n % 2 == 0 ? DEAL : TURN, 0, 0);
        ways *= m - n;
        edges.is("ways of " + (n + 1) + " cards of " + m, x.ways(n + 1), ways);
        edges.is("each alike likely", x.chance(ways - 1, 1), ways);
        edges.is("above the line", x.chance(0, 0), 1);
      }
      edges.is("all are out", x.stage(DEAL, 1, 0), STATE);
      edges.is("all are out", x.stage(TURN, 0, 0), STATE);
      for (int n = 0; n < m; n++) {
        edges.is("the first way", x.happened(0, n), n);
        edges.is("the last way", x.happened(ways - 1, n), m - 1 - n);
      }
    }
    VeiledTable between = of(2, "deal 0;toss 2;turn");
    edges.are("other stages between take no card", way(between, 3), 1, 1, 0);
    edges.are("nor do numbers that were tossed", way(between, 1), 0, 1, 1);
  }

  private static void numbers() {
    edges.of(TERMS, "p chooses a number below k (2 or 3); all see it");
    for (int kind : new int[] {ASK, VEIL, TOSS, PEEK}) {
      for (int k = 2; k <= 3; k++) {
        VeiledTable x = new VeiledTable();
        x.stage(kind, 0, k);
        edges.is("ways", x.ways(1), k);
        for (int e = 0; e < k; e++) edges.is("number", x.happened(e, 0), e);
        edges.is("no more", x.happened(k, 0), BAD);
      }
    }
    edges.of(TERMS, "What happened in a STAGE: the CARD, the number; 0 of SHOW, FORGET, which all see");
    VeiledTable x = of(1, "show 2;forget 1");
    edges.is("one way", x.ways(2), 1);
    edges.are("both 0", way(x, 0), 0, 0);
    edges.are("all see them", seers(x, 1), 7);
    edges.is("a forget is seen by all", x.seen(1, 2), 7);
    edges.is("seen as 0 and 1 more", x.view(0, 0, 2), 8 * (8 + 1) + 1);
  }

  private static void numbersOfChance() {
    edges.of(TERMS, "6 TOSS: a number below k (2 or 3), each alike likely; all see it. 7 PEEK: likewise; p sees it.");
    for (int kind = TOSS; kind <= PEEK; kind++) {
      for (int k = 0; k <= 4; k++) {
        VeiledTable x = new VeiledTable();
        boolean isRight = k == 2 || k == 3;
        edges.is("kind " + kind + " with k " + k, x.stage(kind, 0, k), isRight ? 0 : BAD);
        edges.is("ways", x.ways(isRight ? 1 : 0), isRight ? k : 1);
        for (int e = 0; isRight && e < k; e++) {
          edges.is("alike likely", x.chance(e, 1), k);
          edges.is("by what all see", x.odds(1, 1, kind == TOSS ? 9 + e : 8, 0, e, 1), kind == TOSS ? 1 : k);
          edges.is("by what 0 sees", x.odds(0, 1, 9 + e, 0, e, 1), 1);
        }
      }
    }
  }

  private static void whoSees() {
    edges.of(TERMS, "each alike likely; p sees it");
    for (int p = 0; p < 3; p++) {
      VeiledTable x = of(3, "deal " + p + ";turn;ask " + p + " 2;veil " + p + " 3;toss 2;peek " + p + " 2");
      edges.are("who sees", seers(x, 6), 1 << p, 7, 7, 1 << p, 7, 1 << p);
      for (int i = 0; i < 6; i++) edges.is("as soon as it happened", x.seen(i, i + 1), x.seen(i, 6));
    }
  }

  private static void show() {
    edges.of(TERMS, "4 SHOW: all of what happened ahead that p sees as yet, all see.");
    edges.are("nothing is ahead", seers(of(3, "show 0;deal 0"), 2), 7, 1);
    edges.are("what p doesn't see", seers(of(3, "deal 0;show 1"), 2), 1, 7);
    edges.are("what p has forgotten", seers(of(3, "deal 0;forget 0;show 0"), 3), 0, 7, 7);
    edges.are("all that p sees, and no more", seers(of(3, "deal 0;peek 0 2;deal 1;veil 0 2;show 0"), 5), 7, 7, 2, 7, 7);
    edges.are("what comes behind", seers(of(3, "deal 0;show 0;deal 0"), 3), 7, 7, 1);
    edges.are("who had forgotten sees it again", seers(of(3, "turn;forget 2;show 1"), 3), 7, 7, 7);
    edges.are("what no other sees", seers(of(3, "deal 0;show 0;forget 0;forget 1;show 2"), 5), 7, 7, 7, 7, 7);
    VeiledTable x = of(3, "deal 1;show 1");
    edges.is("not ahead of it", x.seen(0, 1), 2);
    edges.is("behind it", x.seen(0, 2), 7);
  }

  private static void forget() {
    edges.of(TERMS, "5 FORGET: of what happened ahead p sees nothing any more.");
    VeiledTable x = of(3, "turn;ask 0 2;toss 2;show 1;forget 0;forget 0");
    edges.are("not itself, all ahead", seers(x, 5), 6, 6, 6, 6, 7);
    edges.are("the other forget too", seers(x, 6), 6, 6, 6, 6, 6, 7);
    edges.are("not ahead of it", seers(x, 4), 7, 7, 7, 7);
    edges.are("nothing is ahead", seers(of(3, "forget 0;deal 0"), 2), 7, 1);
    edges.are("its own secrets: none sees them", seers(of(3, "deal 2;veil 2 2;peek 2 2;forget 2"), 4), 0, 0, 0, 7);
    edges.are("others forget nothing", seers(of(3, "deal 0;deal 1;deal 2;forget 1"), 4), 1, 0, 4, 7);
    edges.are("what comes behind", seers(of(3, "deal 1;forget 1;deal 1"), 3), 0, 7, 2);
  }

  private static void ways() {
    edges.of(TERMS, "all WAYS behind j STAGES are numbered from 0 on, in order by what happened in STAGE 0, of like ones in STAGE 1, and so on");
    VeiledTable x = of(2, "ask 0 3;turn;show 0;veil 1 2;deal 0");
    int[][] all = new int[12][];
    int n = 0;
    for (int choice = 0; choice < 3; choice++) {
      for (int card = 0; card < 2; card++) for (int veil = 0; veil < 2; veil++) all[n++] = new int[] {choice, card, 0, veil, 1 - card};
    }
    for (int way = 0; way < 12; way++) edges.are("way " + way, way(x, way), all[way]);
    edges.is("behind no stages there is one way", x.ways(0), 1);
    edges.is("its number", x.world(2, 0, 1, 0), 0);
    edges.is("behind all", x.ways(5), 12);
    edges.is("no stages at all", new VeiledTable().ways(0), 1);
    edges.of(TERMS, "WAYS without more: behind all STAGES");
    edges.is("happened: the last way behind all", x.happened(11, 0), 2);
    edges.is("happened: one more", x.happened(12, 0), BAD);
    edges.is("view behind less stages: by a way behind all", x.view(0, 11, 1), 8 + 3);
    edges.is("world: by its number behind j", x.world(0, 1, 8 + 3, 0), 2);
  }

  private static void chances() {
    edges.of(TERMS, "how likely all its DEALS, TURNS, TOSSES, PEEKS are as they are, one times the other");
    String[] texts = {"deal 0", "turn", "toss 2", "toss 3", "peek 1 2", "peek 1 3", "ask 0 2", "ask 0 3", "veil 0 2", "veil 0 3", "show 0", "forget 0"};
    int[] below = {5, 5, 2, 3, 2, 3, 1, 1, 1, 1, 1, 1};
    for (int n = 0; n < texts.length; n++) {
      VeiledTable x = of(5, texts[n]);
      for (int way = 0; way < x.ways(1); way++) {
        edges.is(texts[n] + ": above", x.chance(way, 0), 1);
        edges.is(texts[n] + ": below", x.chance(way, 1), below[n]);
      }
    }
    edges.is("none at all: for sure", new VeiledTable().chance(0, 1), 1);
    edges.is("one times the other", of(5, "deal 0;turn;toss 3;ask 0 3;peek 1 2;veil 1 2").chance(0, 1), 5 * 4 * 3 * 2);
    edges.is("the last card, for sure", of(2, "deal 0;deal 1").chance(1, 1), 2);
    edges.is("the least likely", of(5, "deal 0;turn;deal 1;toss 3;toss 3;toss 3").chance(1619, 1), 1620);
  }

  private static void views() {
    edges.of(TERMS, "a number, 1 at first; for each of these STAGES, by numbers, it becomes 8 times it, and, if the PLAYER sees behind j STAGES what happened there, that and 1 more");
    VeiledTable x = of(5, "deal 0;turn;peek 1 3;forget 1;show 0;veil 2 3");
    int last = x.ways(6) - 1;
    edges.are("the last way", way(x, last), 4, 3, 2, 0, 0, 2);
    int[] of0 = {1, 13, 108, 864, 6913, 55305, 442440};
    // 1 forgets all behind stage 3, and is shown card 4 and the turn and the forget by 0.
    int[] of1 = {1, 8, 68, 547, 4097, 8 * (8 * (8 * (8 * (8 + 5) + 4)) + 1) + 1, 442440};
    int[] of2 = {1, 8, 68, 544, 4353, 55305, 442443};
    for (int j = 0; j <= 6; j++) {
      edges.is("view of 0 behind " + j, x.view(0, last, j), of0[j]);
      edges.is("view of 1 behind " + j, x.view(1, last, j), of1[j]);
      edges.is("view of 2 behind " + j, x.view(2, last, j), of2[j]);
    }
    edges.is("what happened is 0: still 1 more", of(1, "turn").view(0, 0, 1), 9);
    edges.is("behind none of none", new VeiledTable().view(2, 0, 0), 1);
  }

  private static void sets() {
    edges.of(TERMS, "A SET of a PLAYER: all WAYS behind j STAGES of a like VIEW, STAGE j being an ASK or a VEIL of that PLAYER; SETS of a PLAYER are numbered from 0 on, by j, of like ones by VIEW");
    VeiledTable x = of(2, "veil 0 2;deal 1;forget 0;ask 0 2;ask 1 3;veil 0 2");
    // Of 0: behind none; behind three it knows nothing but the forget; behind five its choice and the other's as well.
    int open = 8 * (8 * 8) + 1;
    edges.is("sets of 0", x.sets(0), 1 + 1 + 6);
    int[] points = {0, 3, 5, 5, 5, 5, 5, 5};
    int[] views = {1, open, 0, 0, 0, 0, 0, 0};
    for (int n = 0; n < 6; n++) views[2 + n] = 8 * (8 * open + n / 3 + 1) + n % 3 + 1;
    int[] sizes = {1, 4, 4, 4, 4, 4, 4, 4};
    for (int n = 0; n < 8; n++) {
      edges.is("j of set " + n, x.setOf(0, n, 0), points[n]);
      edges.is("view of set " + n, x.setOf(0, n, 1), views[n]);
      edges.is("ways of set " + n, x.setOf(0, n, 2), sizes[n]);
    }
    edges.is("sets of 1: by its card and the choice", x.sets(1), 4);
    edges.is("sets of who never chooses", x.sets(2), 0);
    edges.is("no other kind makes sets", of(3, "deal 0;turn;toss 2;peek 0 2;show 0;forget 0").sets(0), 0);
    edges.is("behind nothing there is a set", of(1, "veil 2 2").sets(2), 1);
  }

  private static void recalls() {
    edges.of(TERMS, "A PLAYER RECALLS, if for each two WAYS of one SET of that PLAYER, and each ASK, VEIL of that PLAYER ahead, VIEW there was alike, and the choice too");
    edges.is("no sets", of(3, "deal 0;forget 0;show 0").recalls(0), 1);
    edges.is("one set, nothing ahead", of(3, "deal 0;forget 0;veil 0 2").recalls(0), 1);
    for (String ahead : new String[] {"ask", "veil"}) {
      for (String later : new String[] {"ask", "veil"}) {
        edges.is("the choice is lost", of(3, ahead + " 0 2;forget 0;" + later + " 0 2").recalls(0), 0);
        edges.is("the view is lost", of(3, "peek 0 2;" + ahead + " 0 2;forget 0;show 1;" + later + " 0 2").recalls(0), 0);
        edges.is("nothing is lost", of(3, "peek 0 2;" + ahead + " 0 2;" + later + " 0 2").recalls(0), 1);
        edges.is("another's choice may be", of(3, ahead + " 1 2;forget 0;" + later + " 0 2").recalls(0), 1);
      }
    }
    edges.is("the view alone: the choice is known by a show", of(3, "peek 0 2;ask 0 2;forget 0;show 2;ask 0 2").recalls(0), 0);
    edges.is("only the last of three forgets", of(3, "ask 0 2;ask 0 2;forget 0;ask 0 2").recalls(0), 0);
    edges.is("forgets behind its last choice", of(3, "ask 0 2;ask 0 2;forget 0").recalls(0), 1);
    edges.is("what was chosen last is known, what first not", of(3, "veil 0 2;forget 0;veil 1 2;show 1;veil 0 2").recalls(0), 0);
    edges.is("what can't be otherwise is not lost: the card that isn't turned up", of(2, "turn;deal 0;ask 0 2;forget 0;show 1;ask 0 2").recalls(0), 1);
    edges.is("it is, if there are two others", of(3, "turn;deal 0;ask 0 2;forget 0;show 1;ask 0 2").recalls(0), 0);
    edges.is("of ways with one card alone nothing is lost", of(1, "deal 0;ask 1 2;forget 0;ask 0 2").recalls(0), 1);
  }

  // ---- part 2: plans, rules, pay

  private static void plans() {
    edges.of(TERMS, "(where none is told, or one that isn't below k: 0)");
    VeiledTable x = of(3, "ask 0 3");
    edges.is("none is told", x.setOf(0, 0, 3), 0);
    edges.is("what was chosen where none was told", x.plan(0, 0, 1, 2), 0);
    edges.is("told", x.setOf(0, 0, 3), 2);
    x.drop();
    x.stage(ASK, 0, 2);
    edges.is("2 isn't below 2", x.setOf(0, 0, 3), 0);
    x.rule(0, 0, 1, 0, 1, 4, 1);
    edges.is("0 is played: twice", x.mean(1, 0), 2);
    edges.is("0 is played, for sure", x.odds(1, 1, 9, 0, 0, 0), 1);
    edges.is("1 isn't", x.odds(1, 1, 10, 0, 1, 0), NO + NONE);
    edges.is("what was chosen", x.plan(0, 0, 1, 1), 0);
    edges.is("1 is below 2", x.setOf(0, 0, 3), 1);
  }

  private static void plansStay() {
    edges.of(TERMS, "A plan stays for its PLAYER, j and VIEW, as long as that isn't told otherwise");
    VeiledTable x = of(3, "toss 2;ask 0 3;ask 1 3");
    x.plan(0, 1, 9, 2);
    x.plan(1, 2, 8 * 9 + 1, 1);
    x.drop();
    x.drop();
    edges.is("its stage is gone", x.count(2), 2);
    x.stage(VEIL, 0, 3);
    edges.is("back as a veil", x.setOf(0, 0, 3), 2);
    edges.is("another view", x.setOf(0, 1, 3), 0);
    for (int p = 1; p < 3; p++) {
      x.drop();
      x.stage(ASK, p, 3);
      edges.is("another player", x.setOf(p, 0, 3), 0);
    }
    x.drop();
    x.drop();
    x.stage(PEEK, 0, 2);
    x.stage(ASK, 0, 3);
    edges.is("the like view of another game", x.setOf(0, 0, 3), 2);
    x.plan(0, 1, 9, 1);
    edges.is("told otherwise", x.setOf(0, 0, 3), 1);
    edges.is("it is the same one", x.count(2), 2);
    // View 9 behind one stage, and behind two: another j.
    x.drop();
    x.drop();
    Scenes.read(x, "ask 2 2;ask 0 2");
    edges.is("another j", x.setOf(2, 0, 3), 0);
    edges.is("by j 1", x.setOf(0, 0, 3), 1);
  }

  private static void fortyPlans() {
    edges.of(TERMS, "40 are told at most");
    VeiledTable x = of(5, "deal 0;peek 0 3;peek 0 3;veil 0 3");
    for (int n = 0; n < 40; n++) edges.is("plan " + n, x.plan(0, 3, x.setOf(0, n, 1), n % 3), 0);
    edges.is("the forty-first", x.plan(0, 3, x.setOf(0, 40, 1), 1), FULL);
    edges.is("count(2)", x.count(2), 40);
    for (int n = 0; n < 45; n++) edges.is("what is chosen in set " + n, x.setOf(0, n, 3), n < 40 ? n % 3 : 0);
    for (int n = 0; n < 40; n++) edges.is("each can be told again", x.plan(0, 3, x.setOf(0, n, 1), 2), n % 3);
    edges.is("count(2)", x.count(2), 40);
  }

  private static void played() {
    edges.of(TERMS, "A WAY is PLAYED, if all choices in it are by PLANS.");
    VeiledTable x = of(3, "toss 3;veil 0 2;ask 1 2");
    x.rule(0, 0, 0, 0, 1, 0, 6);
    edges.is("one of each toss is played", x.mean(1, 0), 6);
    edges.is("all are played where none chooses", of(3, "toss 3;deal 0").odds(1, 2, 8 * 9, 1, 2, 1), 3);
    x.rule(1, 1, 2, 1, 2, 0, 6);
    edges.is("0 and 0 in each", x.mean(2, 0), 6);
    x.plan(0, 1, 9, 1);
    edges.is("1 and 0 in one of three", x.mean(2, 0), 4);
    x.plan(1, 2, 8 * 9, 1);
    edges.is("1 and 1 in it", x.mean(2, 0), 6);
    edges.is("both must be by plans", x.odds(2, 3, 8 * (8 * 9) + 1, 1, 1, 0), NO + NONE);
  }

  private static void rulesAndWhoPays() {
    edges.of(TERMS, "RULES are numbered from 0 on as they come, 8 at most");
    VeiledTable x = new VeiledTable();
    for (int n = 0; n < 8; n++) edges.is("a rule", x.rule(0, 0, 0, 0, 1, 0, 1), n);
    edges.is("a ninth", x.rule(0, 0, 0, 0, 1, 0, 1), FULL);
    edges.is("eight are paid", x.pay(1, 0), 8);
    x.unrule();
    edges.is("the eighth again", x.rule(0, 0, 0, 1, 0, 0, 1), 7);
    edges.is("the other way", x.pay(1, 0), 6);
    edges.of(TERMS, "PLAYER a pays PLAYER b the amount (b pays a as much, if it is below 0)");
    for (int a = 0; a < 3; a++) {
      for (int b = 0; b < 3; b++) {
        if (a == b) continue;
        VeiledTable y = new VeiledTable();
        y.rule(0, 0, 0, a, b, 0, 99);
        for (int p = 0; p < 3; p++) edges.is(a + " to " + b, y.pay(p, 0), p == a ? -99 : p == b ? 99 : 0);
        y.unrule();
        y.rule(0, 0, 0, a, b, 0, -99);
        for (int p = 0; p < 3; p++) edges.is(b + " to " + a, y.pay(p, 0), p == a ? 99 : p == b ? -99 : 0);
        y.unrule();
        y.rule(0, 0, 0, a, b, 0, 0);
        for (int p = 0; p < 3; p++) edges.is("nothing", y.pay(p, 0), 0);
      }
    }
  }

  /** Whether rule 0, with this test of stages 0 and 1, is so of each way of "ask 0 3;ask 1 3". */
  private static int[] soOf(int test, int x, int y) {
    VeiledTable table = of(3, "ask 0 3;ask 1 3");
    table.rule(test, x, y, 0, 1, 0, 1);
    int[] so = new int[9];
    for (int way = 0; way < 9; way++) so[way] = table.ruleOf(0, way);
    return so;
  }

  private static void tests() {
    edges.of(TERMS, "tests 0 always; 1 X is Y; 2 X is more than Y; 3 X and Y together are even; 4 the test of RULE x isn't so");
    edges.are("always", soOf(0, 0, 1), 1, 1, 1, 1, 1, 1, 1, 1, 1);
    edges.are("always, whatever stages are there", soOf(0, 7, 7), 1, 1, 1, 1, 1, 1, 1, 1, 1);
    edges.are("is", soOf(1, 0, 1), 1, 0, 0, 0, 1, 0, 0, 0, 1);
    edges.are("a stage is itself", soOf(1, 1, 1), 1, 1, 1, 1, 1, 1, 1, 1, 1);
    edges.are("more", soOf(2, 0, 1), 0, 0, 0, 1, 0, 0, 1, 1, 0);
    edges.are("more, the other way", soOf(2, 1, 0), 0, 1, 1, 0, 0, 1, 0, 0, 0);
    edges.are("no stage is more than itself", soOf(2, 0, 0), 0, 0, 0, 0, 0, 0, 0, 0, 0);
    edges.are("even", soOf(3, 0, 1), 1, 0, 1, 0, 1, 0, 1, 0, 1);
    edges.are("twice a number is even", soOf(3, 1, 1), 1, 1, 1, 1, 1, 1, 1, 1, 1);
    VeiledTable x = of(3, "ask 0 2");
    for (int n = 0; n < 8; n++) x.rule(n == 0 ? 0 : 4, Math.max(0, n - 1), 0, 0, 1, 0, 1);
    for (int n = 0; n < 8; n++) edges.is("isn't, isn't, ..: rule " + n, x.ruleOf(n, 1), n % 2 == 0 ? 1 : 0);
  }

  /** The amount of rule 0 in each way of "turn;ask 1 3", with three cards of worths 5, 0, -9. */
  private static int[] amountOf(int amount, int x, int y, int v) {
    VeiledTable table = of(3, "turn;ask 1 3");
    table.worth(0, 5);
    table.worth(2, -9);
    table.rule(0, x, y, 0, 1, amount, v);
    int[] all = new int[9];
    for (int way = 0; way < 9; way++) all[way] = table.ruleOf(0, way);
    return all;
  }

  private static void amounts() {
    edges.of(TERMS, "Amounts 0 v; 1 v times the WORTH of CARD X (0, if there is no CARD X); 2 v times (X less Y); 3 the amount of RULE x, and v; 4 as 0, twice if X is 0");
    edges.are("v", amountOf(0, 7, 7, -99), -99, -99, -99, -99, -99, -99, -99, -99, -99);
    edges.are("v times the worth", amountOf(1, 0, 7, 99), 495, 495, 495, 0, 0, 0, -891, -891, -891);
    edges.are("the worth of a number", amountOf(1, 1, 0, -1), -5, 0, 9, -5, 0, 9, -5, 0, 9);
    edges.are("less", amountOf(2, 0, 1, 99), 0, -99, -198, 99, 0, -99, 198, 99, 0);
    edges.are("less itself", amountOf(2, 1, 1, 99), 0, 0, 0, 0, 0, 0, 0, 0, 0);
    edges.are("twice if X is 0", amountOf(4, 1, 7, -99), -198, -99, -99, -198, -99, -99, -198, -99, -99);
    edges.are("twice nothing", amountOf(4, 0, 0, 0), 0, 0, 0, 0, 0, 0, 0, 0, 0);
    VeiledTable x = of(2, "toss 3");
    x.worth(0, 9);
    x.worth(1, -9);
    x.rule(0, 0, 0, 0, 1, 1, 99);
    for (int n = 1; n < 8; n++) x.rule(0, n - 1, 0, 0, 1, 3, n == 1 ? -99 : 99);
    int[] first = {891, 792, 891, 990, 1089, 1188, 1287, 1386};
    for (int n = 0; n < 8; n++) {
      edges.is("and v: rule " + n, x.ruleOf(n, 0), first[n]);
      edges.is("below 0: rule " + n, x.ruleOf(n, 1), first[n] - 2 * 891);
      edges.is("no card 2: rule " + n, x.ruleOf(n, 2), first[n] - 891);
    }
    VeiledTable y = of(3, "ask 0 2");
    y.rule(1, 0, 5, 0, 1, 0, 8);
    y.rule(0, 0, 0, 0, 1, 3, 1);
    edges.is("the amount of a rule whose test isn't so", y.ruleOf(1, 0), 9);
    edges.is("that one is not paid itself", y.pay(1, 0), 9);
  }

  private static void missingStages() {
    edges.of(TERMS, "Where a STAGE isn't there, the test isn't so, the amount 0");
    for (int test = 1; test <= 3; test++) {
      edges.are("test " + test + " without stage x", soOf(test, 2, 0), 0, 0, 0, 0, 0, 0, 0, 0, 0);
      edges.are("test " + test + " without stage y", soOf(test, 1, 2), 0, 0, 0, 0, 0, 0, 0, 0, 0);
      edges.are("test " + test + " without both", soOf(test, 7, 7), 0, 0, 0, 0, 0, 0, 0, 0, 0);
    }
    edges.are("worth without stage x", amountOf(1, 2, 0, 9), 0, 0, 0, 0, 0, 0, 0, 0, 0);
    edges.are("less without stage x", amountOf(2, 2, 1, 9), 0, 0, 0, 0, 0, 0, 0, 0, 0);
    edges.are("less without stage y", amountOf(2, 1, 2, 9), 0, 0, 0, 0, 0, 0, 0, 0, 0);
    edges.are("twice without stage x", amountOf(4, 2, 1, 9), 0, 0, 0, 0, 0, 0, 0, 0, 0);
    VeiledTable x = of(3, "ask 0 2");
    x.rule(1, 0, 1, 0, 1, 4, 6);
    x.rule(0, 1, 0, 0, 1, 4, 6);
    edges.is("a test without its stage", x.ruleOf(0, 0), 0);
    edges.is("an amount without its stage", x.ruleOf(1, 0), 0);
    x.stage(TOSS, 0, 2);
    edges.is("the stage comes: the test is so", x.ruleOf(0, 0), 12);
    edges.is("the stage comes: the amount is twice 6", x.ruleOf(1, 0), 12);
    edges.is("or once", x.ruleOf(1, 1), 6);
    x.drop();
    edges.is("and goes", x.ruleOf(1, 0), 0);
    VeiledTable none = new VeiledTable();
    for (int test = 0; test < 4; test++) none.rule(test, 0, 0, 0, 1, 0, 1);
    for (int amount = 0; amount < 5; amount++) if (amount != 3) none.rule(0, 0, 0, 0, 1, amount, 1);
    int[] due = {1, 0, 0, 0, 1, 0, 0, 0};
    for (int n = 0; n < 8; n++) edges.is("no stages at all: rule " + n, none.ruleOf(n, 0), due[n]);
  }

  private static void missingRules() {
    edges.of(TERMS, "so too with RULES that aren't there, or don't come ahead");
    VeiledTable x = of(3, "ask 0 2");
    x.rule(4, 0, 0, 0, 1, 0, 1);
    x.rule(0, 1, 0, 0, 1, 3, 5);
    x.rule(4, 3, 0, 0, 1, 0, 1);
    x.rule(0, 4, 0, 0, 1, 3, 5);
    x.rule(4, 7, 0, 0, 1, 0, 1);
    x.rule(0, 7, 0, 0, 1, 3, 5);
    x.rule(4, 0, 0, 0, 1, 0, 1);
    x.rule(0, 1, 0, 0, 1, 3, 5);
    int[] due = {0, 0, 0, 0, 0, 0, 1, 5};
    String[] why = {"test of itself", "amount of itself", "test of the next", "amount of the next", "test of one that never comes",
      "amount of one behind", "test that isn't so is ahead", "amount 0 is ahead"};
    for (int n = 0; n < 8; n++) edges.is(why[n], x.ruleOf(n, 0), due[n]);
    x.unrule();
    x.unrule();
    edges.is("behind, when that is gone", x.ruleOf(5, 0), 0);
    VeiledTable y = new VeiledTable();
    y.rule(0, 0, 0, 0, 1, 0, 7);
    y.rule(0, 0, 0, 0, 1, 3, 1);
    y.unrule();
    y.unrule();
    y.rule(0, 0, 0, 0, 1, 3, 1);
    edges.is("ahead there was one once", y.ruleOf(0, 0), 0);
  }

  private static void pays() {
    edges.of(TERMS, "all that is paid to that one less all that that one pays");
    VeiledTable x = of(3, "toss 2");
    edges.is("no rules", x.pay(0, 0), 0);
    x.rule(0, 0, 0, 0, 1, 0, 10);
    x.rule(0, 0, 0, 1, 2, 0, 3);
    x.rule(1, 0, 1, 2, 0, 0, 50);
    x.rule(0, 0, 0, 2, 0, 4, 1);
    edges.is("0, way 0", x.pay(0, 0), -10 + 2);
    edges.is("1, way 0", x.pay(1, 0), 10 - 3);
    edges.is("2, way 0", x.pay(2, 0), 3 - 2);
    edges.is("0, way 1", x.pay(0, 1), -10 + 1);
    edges.of(TERMS, "STAKE is 1 at first; what is won is PAY, MEAN times STAKE");
    edges.is("at first", x.count(4), 1);
    edges.is("mean: -8 and -9 of 2", x.mean(0, 0), -17);
    edges.is("of 2", x.mean(0, 1), 2);
    x.raise(4);
    edges.is("pay times stake", x.pay(0, 1), -36);
    edges.is("mean times stake", x.mean(0, 0), -34);
    edges.is("in lowest terms", x.mean(0, 1), 1);
    edges.is("an amount is not", x.ruleOf(0, 0), 10);
    edges.is("nor a reply", x.reply(0, 0), -17);
  }

  private static void means() {
    edges.of(TERMS, "PAY in each PLAYED WAY times its CHANCE, together");
    edges.is("no rules, no stages", new VeiledTable().mean(2, 0), 0);
    VeiledTable x = of(4, "turn;ask 0 3;peek 1 3");
    // 1 is paid the card less what 1 has seen: 6 less 4 by four cards and three numbers.
    x.rule(0, 0, 2, 0, 1, 2, 1);
    edges.is("all cards and numbers", x.mean(1, 0), 1);
    edges.is("with a twelfth each: 6 of 12", x.mean(1, 1), 2);
    // And what 0 chooses times 4, where 0 chooses so: 2 for card 3 alone.
    x.rule(0, 1, 3, 0, 1, 1, 4);
    x.worth(2, 1);
    edges.is("no way with 2 is played", x.mean(1, 1), 2);
    x.plan(0, 1, 8 + 4, 2);
    edges.is("three of twelve are: 6 and 12 of 12", x.mean(1, 0), 3);
    edges.is("of 2", x.mean(1, 1), 2);
    edges.is("0 pays it", x.mean(0, 0), -3);
    edges.is("2 has no part", x.mean(2, 0), 0);
    edges.is("for sure", x.mean(2, 1), 1);
  }

  private static void replies() {
    edges.of(TERMS, "the greatest MEAN of that one by any PLANS for all its SETS, those of others as told");
    VeiledTable x = of(3, "veil 1 3;ask 0 3");
    x.rule(1, 0, 1, 1, 0, 0, 5);
    x.rule(0, 1, 0, 0, 2, 2, 1);
    // 0 is paid 5 for the number 1 has chosen, and pays 2 the difference to it.
    edges.is("1 chose 0", x.reply(0, 0), 5);
    x.plan(1, 0, 1, 2);
    edges.is("1 chose 2: 5 for 2, or 2 for 0", x.reply(0, 0), 5);
    edges.is("as it is, 0 gets 2", x.mean(0, 0), 2);
    edges.is("1 as 0 chooses 0", x.reply(1, 0), 0);
    edges.is("who has no sets: its mean", x.reply(2, 0), -2);
    x.rule(0, 0, 0, 0, 1, 0, 9);
    edges.is("below 0", x.reply(0, 0), -4);
    edges.of(TERMS, "FIRST REPLY: of those with that that one whose choices, by SETS in order, are least where they are unlike first");
    VeiledTable y = of(3, "turn;ask 0 3");
    // What is asked is to be even with the card: 0 or 2 for card 0, 1 for 1, 0 or 2 for 2.
    y.rule(3, 0, 1, 1, 0, 0, 5);
    for (int n = 0; n < 3; n++) y.plan(0, 1, 9 + n, 2);
    edges.is("2 was right for two of them", y.better(0), 3);
    edges.are("the least of the best", new int[] {y.setOf(0, 0, 3), y.setOf(0, 1, 3), y.setOf(0, 2, 3)}, 0, 1, 0);
    // Two choices that must be unlike: 0, 1 comes ahead of 1, 0.
    VeiledTable z = of(3, "ask 0 2;forget 0;ask 0 2");
    z.rule(1, 0, 2, 0, 1, 0, 5);
    z.plan(0, 0, 1, 1);
    edges.is("as it is, they are unlike", z.mean(0, 0), 0);
    edges.is("both become others", z.better(0), 2);
    edges.are("by sets in order", new int[] {z.setOf(0, 0, 3), z.setOf(0, 1, 3)}, 0, 1);
    edges.is("still unlike", z.mean(0, 0), 0);
  }
}
