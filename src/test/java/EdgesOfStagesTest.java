import java.io.IOException;

/** The edges of promises 1 to 14: the pack, stages, ways, views. */
public final class EdgesOfStagesTest {
  private static final int NONE = -1, BAD = -2, STATE = -3, FULL = -4, NOTHING = -11, PLACE = -12;
  private static final long NO = VeiledTable.NO;
  private static final int DEAL = 0, TURN = 1, ASK = 2, VEIL = 3, SHOW = 4, FORGET = 5, TOSS = 6, PEEK = 7;
  private static final int LEAST = 1 << 31, MOST = -1 >>> 1;
  private static final int[] NO_PLAYERS = {-1, 3, LEAST, MOST};
  private static Edges edges;

  public static void main(String[] args) throws IOException {
    edges = new Edges();
    aNewObject();
    pack();
    packBegins();
    worth();
    stage();
    stageRefused();
    stageOf();
    seen();
    drop();
    ways();
    happened();
    chance();
    view();
    worlds();
    world();
    odds();
    oddsRefused();
    edges.end("EdgesOfStagesTest", 1, 14);
  }

  private static VeiledTable of(int cards, String text) {
    return Scenes.of(cards, text);
  }

  private static void aNewObject() {
    edges.of(1, "Three CARDS, no STAGES, PLANS, RULES.");
    int[] counts = {3, 0, 0, 0, 1};
    for (int what = 0; what < 5; what++) edges.is("count(" + what + ")", new VeiledTable().count(what), counts[what]);
    for (int p = 0; p < 3; p++) edges.is("sets", new VeiledTable().sets(p), 0);
    VeiledTable x = new VeiledTable();
    edges.is("no image", x.back(), STATE);
    edges.is("no stage", x.drop(), STATE);
    edges.is("no rule", x.unrule(), STATE);
    edges.is("no plan", x.unplan(), 0);
    edges.is("an empty tape", x.feed(1, 0), 1);
    for (int r = 0; r < 2; r++) edges.is("no rack", x.build(r), NOTHING);
    for (int s = 0; s < 4; s++) edges.is("no sheet", x.read(s, 0), NOTHING);
    for (int hand = 0; hand < 4; hand++) edges.is("an empty hand", x.hold(hand, 0, 0), 0);
    VeiledTable other = new VeiledTable();
    Scenes.busy();
    Scenes.full();
    edges.is("what others do is nothing to it", Picture.of(other).equals(Picture.of(new VeiledTable())) ? 1 : 0, 1);
  }

  private static void pack() {
    edges.of(2, "THE PACK has m CARDS");
    for (int m : new int[] {0, 6, -1, LEAST, MOST}) {
      edges.refused(Scenes::fresh, "pack(" + m + ")", x -> x.pack(m), BAD);
      edges.refused(Scenes::busy, "pack(" + m + ") of a busy table", x -> x.pack(m), BAD);
    }
    for (int m = 1; m <= 5; m++) {
      VeiledTable x = new VeiledTable();
      edges.is("pack(" + m + ")", x.pack(m), 3);
      edges.is("how many there were", x.pack(3), m);
      edges.is("how many there are", x.count(0), 3);
    }
  }

  private static void packBegins() {
    edges.of(2, "all WORTHS 0; there are no STAGES, PLANS, RULES, STAKE is 1");
    for (int m = 1; m <= 5; m++) {
      for (int time = 0; time < 2; time++) {
        VeiledTable x = time == 0 ? Scenes.busy() : Scenes.full();
        for (int card = 0; card < x.count(0); card++) x.worth(card, 9);
        int was = (int) x.count(0);
        edges.is("pack(" + m + ")", x.pack(m), was);
        int[] counts = {m, 0, 0, 0, 1};
        for (int what = 0; what < 5; what++) edges.is("count(" + what + ")", x.count(what), counts[what]);
        for (int card = 0; card < m; card++) edges.is("worth of card " + card, x.worth(card, 1), 0);
        edges.is("no worth is kept for a greater pack", x.pack(5), m);
        for (int card = 0; card < 5; card++) edges.is("worth of card " + card, x.worth(card, 1), 0);
      }
    }
    VeiledTable x = of(3, "ask 0 3");
    x.plan(0, 0, 1, 2);
    x.pack(3);
    x.stage(ASK, 0, 3);
    edges.is("no plan is left for the like set", x.setOf(0, 0, 3), 0);
  }

  private static void worth() {
    edges.of(3, "WORTH of a CARD becomes v: what it was.");
    for (int m = 1; m <= 5; m++) {
      int cards = m;
      Edges.Scene pack = () -> of(cards, "turn");
      for (int card : new int[] {-1, m, 5, LEAST, MOST}) edges.refused(pack, "worth(" + card + ", 1)", x -> x.worth(card, 1), BAD);
      for (int v : new int[] {-10, 10, LEAST, MOST}) edges.refused(pack, "worth(0, " + v + ")", x -> x.worth(0, v), BAD);
      VeiledTable x = pack.made();
      for (int card = 0; card < m; card++) edges.is("was", x.worth(card, card % 2 == 0 ? 9 : -9), 0);
      for (int card = 0; card < m; card++) edges.is("each its own", x.worth(card, 0), card % 2 == 0 ? 9 : -9);
    }
  }

  private static void stage() {
    edges.of(4, "One more STAGE: its number.");
    for (int p = 0; p < 3; p++) {
      VeiledTable x = new VeiledTable();
      int[][] all = {{DEAL, p, 0}, {ASK, p, 2}, {VEIL, p, 3}, {SHOW, p, 0}, {FORGET, p, 0}, {PEEK, p, 3}};
      for (int i = 0; i < 6; i++) edges.is("stage " + i, x.stage(all[i][0], all[i][1], all[i][2]), i);
    }
    VeiledTable x = new VeiledTable();
    edges.is("turn", x.stage(TURN, 0, 0), 0);
    edges.is("toss", x.stage(TOSS, 0, 2), 1);
    edges.is("how many", x.count(1), 2);
    edges.of(4, "DEAL, TURN, and no CARD would be left for it");
    for (int m = 1; m <= 5; m++) {
      VeiledTable y = new VeiledTable();
      y.pack(m);
      for (int n = 0; n < m; n++) edges.is("card " + n, y.stage(n % 2, 0, 0), n);
      edges.is("deal without a card", y.stage(DEAL, 0, 0), STATE);
      edges.is("turn without a card", y.stage(TURN, 0, 0), STATE);
      edges.is("others need none", y.stage(SHOW, 0, 0), m);
      edges.is("how many", y.count(1), m + 1);
    }
  }

  private static void stageRefused() {
    edges.of(4, "BAD: kind, p (of turn, toss: not 0), k (of those without: not 0); FULL; STATE");
    int[][] wrong = {{-1, 0, 0}, {8, 0, 0}, {LEAST, 0, 0}, {MOST, 0, 2}, {TURN, 1, 0}, {TURN, 2, 0}, {TURN, -1, 0}, {TOSS, 1, 2},
      {TOSS, 2, 3}, {TOSS, -1, 2}, {TOSS, 0, 0}};
    for (int[] w : wrong) edges.refused(Scenes::busy, "stage(" + w[0] + ", " + w[1] + ", " + w[2] + ")", x -> x.stage(w[0], w[1], w[2]), BAD);
    for (int kind : new int[] {DEAL, ASK, VEIL, SHOW, FORGET, PEEK}) {
      int k = kind == ASK || kind == VEIL || kind == PEEK ? 2 : 0;
      for (int p : NO_PLAYERS) edges.refused(Scenes::busy, "stage(" + kind + ", " + p + ", " + k + ")", x -> x.stage(kind, p, k), BAD);
    }
    for (int kind : new int[] {ASK, VEIL, TOSS, PEEK}) {
      for (int k : new int[] {0, 1, 4, -2, LEAST, MOST}) edges.refused(Scenes::busy, "stage(" + kind + ", 0, " + k + ")", x -> x.stage(kind, 0, k), BAD);
    }
    for (int kind : new int[] {DEAL, TURN, SHOW, FORGET}) {
      for (int k : new int[] {-1, 1, 2, 3, LEAST}) edges.refused(Scenes::busy, "stage(" + kind + ", 0, " + k + ")", x -> x.stage(kind, 0, k), BAD);
    }
    for (int kind = 0; kind < 8; kind++) {
      int what = kind;
      int k = kind == ASK || kind == VEIL || kind == TOSS || kind == PEEK ? 3 : 0;
      edges.refused(Scenes::full, "a seventh of kind " + kind, x -> x.stage(what, 0, k), FULL);
    }
    for (int kind : new int[] {DEAL, TURN}) {
      edges.refused(() -> of(2, "turn;toss 2;deal 1"), "stage(" + kind + ", 0, 0) without a card", x -> x.stage(kind, 0, 0), STATE);
      edges.refused(() -> of(1, "turn;toss 2;toss 2;toss 2;toss 2;toss 2"), "a seventh without a card", x -> x.stage(kind, 0, 0), FULL);
    }
  }

  private static void stageOf() {
    edges.of(5, "Of a STAGE: 0 KIND, 1 PLAYER, 2 k, 3 which PLAYERS see behind all STAGES what happened there (bits). BAD.");
    for (int i : new int[] {-1, 5, 6, LEAST, MOST}) edges.refused(Scenes::busy, "stageOf(" + i + ", 0)", x -> x.stageOf(i, 0), BAD);
    for (int what : new int[] {-1, 4, LEAST, MOST}) edges.refused(Scenes::busy, "stageOf(0, " + what + ")", x -> x.stageOf(0, what), BAD);
    edges.refused(Scenes::fresh, "stageOf(0, 0) of none", x -> x.stageOf(0, 0), BAD);
    VeiledTable x = of(3, "deal 2;veil 1 3;toss 2;show 2;peek 0 2;forget 0");
    int[][] all = {{DEAL, 2, 0, 6}, {VEIL, 1, 3, 2}, {TOSS, 0, 2, 6}, {SHOW, 2, 0, 6}, {PEEK, 0, 2, 0}, {FORGET, 0, 0, 7}};
    for (int i = 0; i < 6; i++) for (int what = 0; what < 4; what++) edges.is("stageOf(" + i + ", " + what + ")", x.stageOf(i, what), all[i][what]);
    x.drop();
    edges.is("behind all that are left", x.stageOf(4, 3), 1);
    edges.is("what is dropped is none", x.stageOf(5, 0), BAD);
  }

  private static void seen() {
    edges.of(6, "Which PLAYERS see behind j STAGES what happened in STAGE i (below j; bits). BAD.");
    int[][] wrong = {{0, 0}, {1, 1}, {2, 1}, {5, 5}, {0, 6}, {5, 6}, {-1, 0}, {-1, 5}, {0, -1}, {0, LEAST}, {0, MOST}, {LEAST, 5}, {MOST, 5}, {MOST, MOST}};
    for (int[] w : wrong) edges.refused(Scenes::busy, "seen(" + w[0] + ", " + w[1] + ")", x -> x.seen(w[0], w[1]), BAD);
    edges.refused(Scenes::fresh, "seen(0, 0) of none", x -> x.seen(0, 0), BAD);
    edges.refused(Scenes::fresh, "seen(0, 1) of none", x -> x.seen(0, 1), BAD);
    VeiledTable x = Scenes.busy();
    edges.is("the last behind all", x.seen(4, 5), 7);
    edges.is("the last ahead of the last", x.seen(3, 4), 7);
    edges.is("the first behind itself alone", x.seen(0, 1), 2);
    edges.is("behind the show", x.seen(0, 4), 7);
    edges.is("ahead of the show", x.seen(2, 3), 2);
  }

  private static void drop() {
    edges.of(7, "The last STAGE is no more: how many there are. STATE: there are none.");
    edges.refused(Scenes::fresh, "drop() of none", x -> x.drop(), STATE);
    edges.refused(() -> dropped(Scenes.busy(), 5), "drop() as all are gone", x -> x.drop(), STATE);
    VeiledTable x = Scenes.full();
    for (int n = 5; n >= 0; n--) edges.is("drop()", x.drop(), n);
    edges.is("plans stay", x.count(2), 40);
    edges.is("rules stay", x.count(3), 8);
    edges.is("there is room for six, and every card", Scenes.read(dropped(of(4, "turn;ask 0 2;turn"), 3), "turn;turn;turn;turn;toss 2;toss 2"), 6);
    VeiledTable y = of(2, "turn;turn");
    edges.is("no card", y.stage(DEAL, 0, 0), STATE);
    y.drop();
    edges.is("its card is back", y.stage(DEAL, 0, 0), 1);
    edges.is("and can be another's", y.seen(1, 2), 1);
    y.drop();
    y.stage(TOSS, 0, 3);
    edges.is("another fan", y.ways(2), 6);
  }

  private static VeiledTable dropped(VeiledTable x, int times) {
    for (int n = 0; n < times; n++) x.drop();
    return x;
  }

  private static void ways() {
    edges.of(8, "How many WAYS there are behind j STAGES. BAD.");
    for (int j : new int[] {-1, 6, 7, LEAST, MOST}) edges.refused(Scenes::busy, "ways(" + j + ")", x -> x.ways(j), BAD);
    edges.refused(Scenes::fresh, "ways(1) of none", x -> x.ways(1), BAD);
    edges.refused(Scenes::full, "ways(7) of six", x -> x.ways(7), BAD);
    VeiledTable x = Scenes.busy();
    int[] due = {1, 4, 8, 24, 24, 72};
    for (int j = 0; j <= 5; j++) edges.is("ways(" + j + ")", x.ways(j), due[j]);
    edges.is("none: one way", new VeiledTable().ways(0), 1);
    edges.is("the fewest", of(1, "deal 0;show 0;forget 0;show 1;forget 1;show 2").ways(6), 1);
    edges.is("the most", of(5, "deal 0;deal 0;deal 0;ask 0 3;toss 3;peek 0 3").ways(6), 1620);
  }

  private static void happened() {
    edges.of(9, "What happened in STAGE i in a WAY (behind all). BAD.");
    int[][] wrong = {{-1, 0}, {72, 0}, {LEAST, 0}, {MOST, 0}, {0, -1}, {0, 5}, {0, 6}, {0, LEAST}, {0, MOST}, {71, 5}, {72, 5}};
    for (int[] w : wrong) edges.refused(Scenes::busy, "happened(" + w[0] + ", " + w[1] + ")", x -> x.happened(w[0], w[1]), BAD);
    edges.refused(Scenes::fresh, "happened(0, 0) of none", x -> x.happened(0, 0), BAD);
    VeiledTable x = Scenes.busy();
    int[] last = {3, 1, 2, 0, 2};
    for (int i = 0; i < 5; i++) {
      edges.is("in the first way", x.happened(0, i), 0);
      edges.is("in the last way", x.happened(71, i), last[i]);
    }
    x.drop();
    edges.is("behind all that are left", x.happened(23, 2), 2);
    edges.is("no such way now", x.happened(24, 2), BAD);
  }

  private static void chance() {
    edges.of(10, "CHANCE of a WAY. BAD.");
    for (int way : new int[] {-1, 72, LEAST, MOST}) edges.refusedLong(Scenes::busy, "chance(" + way + ", 0)", x -> x.chance(way, 0), BAD);
    for (int part : new int[] {-1, 2, LEAST, MOST}) edges.refusedLong(Scenes::busy, "chance(0, " + part + ")", x -> x.chance(0, part), BAD);
    edges.refusedLong(Scenes::fresh, "chance(1, 0) of none", x -> x.chance(1, 0), BAD);
    edges.is("the only way of none", new VeiledTable().chance(0, 0), 1);
    edges.is("the only way of none", new VeiledTable().chance(0, 1), 1);
    edges.is("the first", Scenes.busy().chance(0, 1), 12);
    edges.is("the last", Scenes.busy().chance(71, 1), 12);
  }

  private static void view() {
    edges.of(11, "VIEW of a PLAYER behind j STAGES of a WAY (behind all). BAD.");
    for (int p : NO_PLAYERS) edges.refused(Scenes::busy, "view(" + p + ", 0, 0)", x -> x.view(p, 0, 0), BAD);
    for (int way : new int[] {-1, 72, LEAST, MOST}) edges.refused(Scenes::busy, "view(0, " + way + ", 0)", x -> x.view(0, way, 0), BAD);
    for (int j : new int[] {-1, 6, LEAST, MOST}) edges.refused(Scenes::busy, "view(0, 0, " + j + ")", x -> x.view(0, 0, j), BAD);
    edges.refused(Scenes::fresh, "view(0, 0, 1) of none", x -> x.view(0, 0, 1), BAD);
    edges.refused(Scenes::fresh, "view(0, 1, 0) of none", x -> x.view(0, 1, 0), BAD);
    VeiledTable x = Scenes.busy();
    int[] last = {1, 8, 8 * 8 + 2, 8 * 66, 8 * (8 * (8 * (8 + 4) + 2) + 3) + 1, 8 * (8 * (8 * (8 * (8 + 4) + 2) + 3) + 1) + 3};
    for (int j = 0; j <= 5; j++) edges.is("of who is shown, behind " + j, x.view(2, 71, j), last[j]);
    edges.is("a way behind all that is none behind j", x.view(1, 71, 1), 12);
    VeiledTable y = of(5, "turn;deal 0;deal 0;ask 0 3;ask 0 3;ask 0 3");
    edges.is("of six, the greatest", y.view(0, 1619, 6), 8 * (8 * (8 * (8 * (8 * (8 + 5) + 4) + 3) + 3) + 3) + 3);
    edges.is("of six, of who sees least", of(5, "deal 0;deal 0;veil 0 2;veil 0 2;peek 0 2;peek 0 2").view(1, 0, 6), 1 << 18);
  }

  private static void worlds() {
    edges.of(12, "How many WAYS behind j STAGES have such a VIEW for a PLAYER. BAD: p, j.");
    for (int p : NO_PLAYERS) edges.refused(Scenes::busy, "worlds(" + p + ", 0, 1)", x -> x.worlds(p, 0, 1), BAD);
    for (int j : new int[] {-1, 6, LEAST, MOST}) edges.refused(Scenes::busy, "worlds(0, " + j + ", 1)", x -> x.worlds(0, j, 1), BAD);
    VeiledTable x = Scenes.busy();
    edges.is("behind none: the one way", x.worlds(0, 0, 1), 1);
    for (int view : new int[] {0, 2, -1, 8, LEAST, MOST}) edges.is("behind none: another view", x.worlds(0, 0, view), 0);
    edges.is("all are like", x.worlds(0, 1, 8), 4);
    edges.is("one is", x.worlds(1, 1, 12), 1);
    edges.is("a card that isn't", x.worlds(1, 1, 13), 0);
    edges.is("a view of another number of stages", x.worlds(1, 2, 12), 0);
    edges.is("of another player", x.worlds(0, 1, 12), 0);
    for (int view : new int[] {0, -12, LEAST, MOST, 12 + (1 << 30), 12 + LEAST}) edges.is("no such view", x.worlds(1, 1, view), 0);
    edges.is("behind all: shown all", x.worlds(2, 5, 8 * (8 * (8 * (8 * 9 + 1) + 1) + 1) + 1), 1);
    edges.is("of no stages", new VeiledTable().worlds(2, 0, 1), 1);
    edges.is("the most", of(5, "deal 0;deal 0;deal 0;veil 0 3;peek 0 3;peek 0 3").worlds(1, 6, 1 << 18), 1620);
  }

  private static void world() {
    edges.of(13, "Which WAY (its number behind j STAGES) is the one at place n of these. BAD: p, j; PLACE.");
    for (int p : NO_PLAYERS) edges.refused(Scenes::busy, "world(" + p + ", 0, 1, 0)", x -> x.world(p, 0, 1, 0), BAD);
    for (int j : new int[] {-1, 6, LEAST, MOST}) edges.refused(Scenes::busy, "world(0, " + j + ", 1, 0)", x -> x.world(0, j, 1, 0), BAD);
    for (int n : new int[] {-1, 4, 5, LEAST, MOST}) edges.refused(Scenes::busy, "world(0, 1, 8, " + n + ")", x -> x.world(0, 1, 8, n), PLACE);
    edges.refused(Scenes::busy, "world of no such view", x -> x.world(0, 1, 9, 0), PLACE);
    edges.refused(Scenes::fresh, "world behind none at place 1", x -> x.world(0, 0, 1, 1), PLACE);
    edges.refused(Scenes::fresh, "world behind none of another view", x -> x.world(0, 0, 0, 0), PLACE);
    VeiledTable x = Scenes.busy();
    edges.is("behind none", x.world(0, 0, 1, 0), 0);
    for (int n = 0; n < 4; n++) edges.is("all are like", x.world(0, 1, 8, n), n);
    for (int n = 0; n < 4; n++) edges.is("who saw the choice 1", x.world(2, 2, 66, n), 2 * n + 1);
    edges.is("one more", x.world(2, 2, 66, 4), PLACE);
    edges.is("the last of all", of(5, "deal 0;deal 0;deal 0;veil 0 3;peek 0 3;peek 0 3").world(1, 6, 1 << 18, 1619), 1619);
  }

  private static void odds() {
    edges.of(14, "by their CHANCES (of the first j): how much of these together have e in STAGE i (below j)");
    VeiledTable x = of(5, "deal 0;toss 3;ask 0 2;deal 1");
    for (int e = 0; e < 5; e++) edges.is("one of five", x.odds(1, 1, 8, 0, e, 1), 5);
    for (int e : new int[] {-1, 5, LEAST, MOST}) {
      edges.is("what never happens: above", x.odds(1, 1, 8, 0, e, 0), 0);
      edges.is("what never happens: below", x.odds(1, 1, 8, 0, e, 1), 1);
    }
    edges.is("what is seen is for sure: above", x.odds(0, 1, 9, 0, 0, 0), 1);
    edges.is("what is seen is for sure: below", x.odds(0, 1, 9, 0, 0, 1), 1);
    edges.is("what is seen not to be", x.odds(0, 1, 9, 0, 1, 0), 0);
    edges.is("of four cards that are left", x.odds(1, 4, 8 * (8 * (8 * 8 + 1) + 1) + 1, 0, 4, 1), 4);
    edges.is("none is its own", x.odds(1, 4, 8 * (8 * (8 * 8 + 1) + 1) + 1, 0, 0, 0), 0);
    edges.of(14, "Of all PLAYED WAYS behind j STAGES (all choices in the first j by PLANS)");
    x.plan(0, 2, 8 * (8 + 5) + 1, 1);
    edges.is("a choice behind j is not asked", x.odds(1, 2, 65, 0, 4, 1), 5);
    edges.is("not asked by four", x.odds(1, 3, 8 * 65 + 1, 0, 0, 1), 4);
    edges.is("the fifth is not among them", x.odds(1, 3, 8 * 65 + 1, 0, 4, 0), 0);
    edges.is("asked by one", x.odds(1, 3, 8 * 65 + 2, 0, 4, 0), 1);
    edges.is("for sure", x.odds(1, 3, 8 * 65 + 2, 0, 4, 1), 1);
    edges.is("with 1 tossed: its plan is of another view", x.odds(1, 3, 8 * 66 + 1, 0, 4, 1), 5);
  }

  private static void oddsRefused() {
    edges.of(14, "BAD: p, j, i, part; NONE: there are none such.");
    for (int p : NO_PLAYERS) edges.refusedLong(Scenes::busy, "odds of player " + p, x -> x.odds(p, 1, 8, 0, 0, 0), BAD);
    for (int j : new int[] {-1, 6, LEAST, MOST}) edges.refusedLong(Scenes::busy, "odds behind " + j, x -> x.odds(0, j, 8, 0, 0, 0), BAD);
    for (int i : new int[] {-1, 1, 2, LEAST, MOST}) edges.refusedLong(Scenes::busy, "odds in stage " + i, x -> x.odds(0, 1, 8, i, 0, 0), BAD);
    for (int part : new int[] {-1, 2, LEAST, MOST}) edges.refusedLong(Scenes::busy, "odds, part " + part, x -> x.odds(0, 1, 8, 0, 0, part), BAD);
    edges.refusedLong(Scenes::busy, "odds behind none", x -> x.odds(0, 0, 1, 0, 0, 0), BAD);
    edges.refusedLong(Scenes::fresh, "odds of no stages", x -> x.odds(0, 0, 1, 0, 0, 0), BAD);
    for (int part = 0; part < 2; part++) {
      int which = part;
      edges.refusedLong(Scenes::busy, "odds of no such view", x -> x.odds(0, 1, 9, 0, 0, which), NONE);
      edges.refusedLong(Scenes::busy, "odds of a view of no played way", x -> x.odds(0, 2, 65, 0, 0, which), NONE);
    }
    for (int view : new int[] {0, -8, LEAST, MOST}) edges.refusedLong(Scenes::busy, "odds of view " + view, x -> x.odds(0, 1, view, 0, 0, 0), NONE);
    edges.is("of the played one", Scenes.busy().odds(0, 2, 66, 0, 0, 1), 4);
  }
}
