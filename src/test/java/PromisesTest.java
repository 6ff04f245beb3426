/** Each promise of the document by ordinary calls, at the edges that it names, and with wrong arguments. */
public final class PromisesTest {
  private static final int NONE = VeiledTable.NONE, BAD = VeiledTable.BAD, STATE = VeiledTable.STATE, FULL = VeiledTable.FULL,
      MUCH = VeiledTable.MUCH, NOTHING = VeiledTable.NOTHING, PLACE = VeiledTable.PLACE, KIND = VeiledTable.KIND, SIZE = VeiledTable.SIZE;
  private static final long NO = VeiledTable.NO;
  private static final int DEAL = 0, TURN = 1, ASK = 2, VEIL = 3, SHOW = 4, FORGET = 5, TOSS = 6, PEEK = 7;
  private static final int LEAST_INT = 1 << 31, MOST_INT = -1 >>> 1;
  private static final Due due = new Due();

  public static void main(String[] args) {
    promise1(); promise2(); promise3(); promise4(); promise5(); promise6(); promise7(); promise8(); promise9(); promise10();
    promise11(); promise12(); promise13(); promise14(); promise15(); promise16(); promise17(); promise18(); promise19();
    promise20(); promise21(); promise22(); promise23(); promise24(); promise25(); promise26(); promise27(); promise28();
    promise29(); promise30(); promise31(); promise32(); promise33(); promise34(); promise35(); promise36(); promise37();
    promise38(); promise39(); promise40(); promise41(); promise42(); promise43(); promise44(); promise45(); promise46();
    due.end("PromisesTest");
  }

  /** A table with the stages that a text tells. */
  private static VeiledTable of(int cards, String text) {
    VeiledTable x = new VeiledTable();
    x.pack(cards);
    if (read(x, text) < 0) due.isSo("a text of the test is right: " + text, false);
    return x;
  }

  private static int read(VeiledTable x, String text) {
    for (int i = 0; i < text.length(); i++) x.feed(1, text.charAt(i) << 24);
    return x.text();
  }

  private static void promise1() {
    due.part("promise 1");
    VeiledTable x = new VeiledTable();
    due.is("count(0)", x.count(0), 3);
    due.is("count(1)", x.count(1), 0);
    due.is("count(2)", x.count(2), 0);
    due.is("count(3)", x.count(3), 0);
    due.is("count(4)", x.count(4), 1);
    for (int card = 0; card < 3; card++) due.is("worth", x.worth(card, 0), 0);
    due.is("worth(3, 0)", x.worth(3, 0), BAD);
    due.is("ways(0)", x.ways(0), 1);
    due.is("back()", x.back(), STATE);
    due.is("text()", x.text(), -100);
    for (int r = 0; r < 2; r++) due.is("build", x.build(r), NOTHING);
    for (int s = 0; s < 4; s++) due.is("read", x.read(s, 0), NOTHING);
    for (int h = 0; h < 4; h++) due.is("asStage", x.asStage(h, 2), NOTHING);
    due.is("a second object is its own", new VeiledTable().pack(5), 3);
    due.is("count(0)", x.count(0), 3);
  }

  private static void promise2() {
    due.part("promise 2");
    VeiledTable x = new VeiledTable();
    int[] sizes = {1, 5, 4, 2, 3};
    int was = 3;
    for (int m : sizes) {
      due.is("pack(" + m + ")", x.pack(m), was);
      due.is("count(0)", x.count(0), m);
      was = m;
    }
    x.worth(0, 4);
    x.stage(ASK, 0, 2);
    x.plan(0, 0, 1, 1);
    x.rule(0, 0, 0, 0, 1, 0, 1);
    x.raise(5);
    int[] wrong = {0, 6, -1, LEAST_INT, MOST_INT};
    for (int m : wrong) due.is("pack(" + m + ")", x.pack(m), BAD);
    due.is("nothing changed: cards", x.count(0), 3);
    due.is("nothing changed: stages", x.count(1), 1);
    due.is("nothing changed: plans", x.count(2), 1);
    due.is("nothing changed: rules", x.count(3), 1);
    due.is("nothing changed: stake", x.count(4), 5);
    x.image();
    x.hold(0, 1, 0);
    x.rack(0, 1);
    x.lay(0, 0, 0);
    x.sheet(0, 1, 1);
    x.cell(0, 0, 9);
    x.feed(1, 'x' << 24);
    due.is("pack(3)", x.pack(3), 3);
    for (int what = 1; what < 4; what++) due.is("count(" + what + ")", x.count(what), 0);
    due.is("count(4)", x.count(4), 1);
    due.is("worth(0, 0)", x.worth(0, 0), 0);
    due.is("hands stay", x.asStage(0, 2), ASK);
    due.is("sheets stay", x.read(0, 0), 9);
    due.is("the tape stays", x.feed(1, 0), 2);
    due.is("racks stay", x.build(0), 1);
    due.is("the image stays", x.back(), 1);
  }

  private static void promise3() {
    due.part("promise 3");
    VeiledTable x = new VeiledTable();
    x.pack(5);
    due.is("worth(4, 9)", x.worth(4, 9), 0);
    due.is("worth(4, -9)", x.worth(4, -9), 9);
    due.is("worth(0, 1)", x.worth(0, 1), 0);
    due.is("worth(4, 10)", x.worth(4, 10), BAD);
    due.is("worth(4, -10)", x.worth(4, -10), BAD);
    due.is("worth(4, LEAST)", x.worth(4, LEAST_INT), BAD);
    due.is("worth(5, 0)", x.worth(5, 0), BAD);
    due.is("worth(-1, 0)", x.worth(-1, 0), BAD);
    due.is("worth(4, 0)", x.worth(4, 0), -9);
    due.is("worth(0, 0)", x.worth(0, 0), 1);
    x.pack(2);
    due.is("worth(2, 0)", x.worth(2, 0), BAD);
    due.is("worth(1, 0)", x.worth(1, 0), 0);
  }

  private static void promise4() {
    due.part("promise 4");
    VeiledTable x = new VeiledTable();
    x.pack(2);
    int[][] wrong = {{-1, 0, 0}, {8, 0, 0}, {LEAST_INT, 0, 0}, {DEAL, 3, 0}, {DEAL, -1, 0}, {DEAL, 0, 2}, {TURN, 1, 0}, {TURN, 0, 1},
      {TURN, -1, 0}, {ASK, 0, 1}, {ASK, 0, 4}, {ASK, 3, 2}, {ASK, 0, 0}, {VEIL, 0, 1}, {VEIL, -1, 2}, {VEIL, 0, 4}, {SHOW, 3, 0}, {SHOW, 0, 2},
      {SHOW, -1, 0}, {FORGET, 0, 3}, {FORGET, 3, 0}, {TOSS, 1, 2}, {TOSS, 0, 0}, {TOSS, 0, 4}, {PEEK, 3, 2}, {PEEK, 0, 1}, {PEEK, 0, -2}};
    for (int[] w : wrong) due.is("stage(" + w[0] + ", " + w[1] + ", " + w[2] + ")", x.stage(w[0], w[1], w[2]), BAD);
    due.is("nothing came of it", x.count(1), 0);
    due.is("deal", x.stage(DEAL, 2, 0), 0);
    due.is("turn", x.stage(TURN, 0, 0), 1);
    due.is("no card is left to deal", x.stage(DEAL, 0, 0), STATE);
    due.is("no card is left to turn", x.stage(TURN, 0, 0), STATE);
    due.is("a wrong deal without a card", x.stage(DEAL, 0, 1), BAD);
    due.is("toss", x.stage(TOSS, 0, 3), 2);
    due.is("show", x.stage(SHOW, 2, 0), 3);
    due.is("forget", x.stage(FORGET, 1, 0), 4);
    due.is("peek", x.stage(PEEK, 1, 2), 5);
    due.is("a seventh", x.stage(ASK, 0, 2), FULL);
    due.is("a seventh without a card", x.stage(DEAL, 0, 0), FULL);
    due.is("a wrong seventh", x.stage(ASK, 0, 5), BAD);
    x.drop();
    due.is("veil", x.stage(VEIL, 2, 3), 5);
    x.pack(1);
    due.is("ask", x.stage(ASK, 2, 3), 0);
    due.is("the only card", x.stage(TURN, 0, 0), 1);
    due.is("none is left", x.stage(DEAL, 1, 0), STATE);
    x.drop();
    due.is("it is back", x.stage(DEAL, 1, 0), 1);
  }

  private static void promise5() {
    due.part("promise 5");
    VeiledTable x = of(3, "deal 1; turn; ask 2 3; veil 0 2; toss 2; peek 1 3");
    int[][] told = {{DEAL, 1, 0, 2}, {TURN, 0, 0, 7}, {ASK, 2, 3, 7}, {VEIL, 0, 2, 1}, {TOSS, 0, 2, 7}, {PEEK, 1, 3, 2}};
    for (int i = 0; i < 6; i++) {
      for (int what = 0; what < 4; what++) due.is("stageOf(" + i + ", " + what + ")", x.stageOf(i, what), told[i][what]);
    }
    due.is("stageOf(6, 0)", x.stageOf(6, 0), BAD);
    due.is("stageOf(-1, 0)", x.stageOf(-1, 0), BAD);
    due.is("stageOf(0, 4)", x.stageOf(0, 4), BAD);
    due.is("stageOf(0, -1)", x.stageOf(0, -1), BAD);
    x = of(3, "deal 1; show 1; forget 2");
    due.is("shown, then forgotten by 2", x.stageOf(0, 3), 3);
    due.is("the show", x.stageOf(1, 3), 3);
    due.is("the forget itself", x.stageOf(2, 3), 7);
    due.is("its kind", x.stageOf(2, 0), FORGET);
    due.is("its player", x.stageOf(2, 1), 2);
    due.is("a stage that is not there", x.stageOf(3, 3), BAD);
  }

  private static void promise6() {
    due.part("promise 6");
    VeiledTable x = of(3, "deal 0; veil 1 2; show 0; forget 2; peek 2 2; show 1");
    int[][] eyes = {{1}, {1, 2}, {7, 2, 7}, {3, 2, 3, 7}, {3, 2, 3, 7, 4}, {7, 7, 7, 7, 4, 7}};
    for (int j = 1; j <= 6; j++) {
      for (int i = 0; i < j; i++) due.is("seen(" + i + ", " + j + ")", x.seen(i, j), eyes[j - 1][i]);
    }
    due.is("seen(1, 1)", x.seen(1, 1), BAD);
    due.is("seen(0, 0)", x.seen(0, 0), BAD);
    due.is("seen(0, 7)", x.seen(0, 7), BAD);
    due.is("seen(-1, 3)", x.seen(-1, 3), BAD);
    due.is("seen(0, -1)", x.seen(0, -1), BAD);
    x = of(3, "deal 0; forget 0; show 0");
    due.is("who has forgotten shows nothing", x.seen(0, 3), 0);
    due.is("who chose it", x.seen(1, 3), 7);
  }

  private static void promise7() {
    due.part("promise 7");
    VeiledTable x = of(3, "deal 0; ask 0 2; show 0");
    x.plan(0, 1, 9, 1);
    x.rule(0, 0, 0, 0, 1, 0, 1);
    due.is("seen ahead", x.seen(0, 3), 7);
    due.is("drop()", x.drop(), 2);
    due.is("what it showed", x.seen(0, 2), 1);
    due.is("its number is bad", x.stageOf(2, 0), BAD);
    due.is("drop()", x.drop(), 1);
    due.is("plans stay", x.count(2), 1);
    due.is("rules stay", x.count(3), 1);
    due.is("drop()", x.drop(), 0);
    due.is("drop()", x.drop(), STATE);
    due.is("ways(0)", x.ways(0), 1);
    due.is("ways(1)", x.ways(1), BAD);
    due.is("count(1)", x.count(1), 0);
  }

  private static void promise8() {
    due.part("promise 8");
    VeiledTable x = of(3, "deal 0; ask 1 3; turn; show 0; deal 2; peek 0 2");
    int[] ways = {1, 3, 9, 18, 18, 18, 36};
    for (int j = 0; j <= 6; j++) due.is("ways(" + j + ")", x.ways(j), ways[j]);
    due.is("ways(7)", x.ways(7), BAD);
    due.is("ways(-1)", x.ways(-1), BAD);
    due.is("ways(LEAST)", x.ways(LEAST_INT), BAD);
    x = of(5, "deal 0; deal 1; deal 2; toss 3; toss 3; toss 3");
    due.is("the most ways", x.ways(6), 1620);
  }

  private static void promise9() {
    due.part("promise 9");
    VeiledTable x = of(3, "deal 0; ask 1 2; turn");
    int[][] all = {{0, 0, 1}, {0, 0, 2}, {0, 1, 1}, {0, 1, 2}, {1, 0, 0}, {1, 0, 2}, {1, 1, 0}, {1, 1, 2}, {2, 0, 0}, {2, 0, 1}, {2, 1, 0}, {2, 1, 1}};
    for (int way = 0; way < 12; way++) {
      for (int i = 0; i < 3; i++) due.is("happened(" + way + ", " + i + ")", x.happened(way, i), all[way][i]);
    }
    due.is("happened(12, 0)", x.happened(12, 0), BAD);
    due.is("happened(-1, 0)", x.happened(-1, 0), BAD);
    due.is("happened(0, 3)", x.happened(0, 3), BAD);
    due.is("happened(0, -1)", x.happened(0, -1), BAD);
    x = of(2, "show 0; toss 3; forget 1; peek 0 2");
    int[] last = {0, 2, 0, 1};
    for (int i = 0; i < 4; i++) due.is("happened(5, " + i + ")", x.happened(5, i), last[i]);
    x = of(1, "deal 0");
    due.is("the only card", x.happened(0, 0), 0);
    due.is("no stage at all", new VeiledTable().happened(0, 0), BAD);
  }

  private static void promise10() {
    due.part("promise 10");
    VeiledTable x = of(5, "deal 0; turn; ask 0 3; veil 1 2; peek 2 3; toss 2");
    for (int way = 0; way < 720; way += 17) {
      due.is("chance(" + way + ", 0)", x.chance(way, 0), 1);
      due.is("chance(" + way + ", 1)", x.chance(way, 1), 120);
    }
    due.is("the last way", x.chance(719, 1), 120);
    due.is("behind it", x.chance(720, 1), NO + BAD);
    due.is("chance(-1, 0)", x.chance(-1, 0), NO + BAD);
    due.is("chance(0, 2)", x.chance(0, 2), NO + BAD);
    due.is("chance(0, -1)", x.chance(0, -1), NO + BAD);
    due.is("no stages", new VeiledTable().chance(0, 1), 1);
    due.is("choices only", of(3, "ask 0 2; veil 1 3").chance(5, 1), 1);
  }

  private static void promise11() {
    due.part("promise 11");
    VeiledTable x = of(3, "deal 0; ask 1 2; forget 0; peek 2 3");
    // Way 17 is 2, 1, 0, 2; way 2 is 0, 0, 0, 2.
    int[] of0 = {1, 11, 90, 513, 4104}, of1 = {1, 8, 66, 529, 4232}, of2 = {1, 8, 66, 529, 4235};
    due.is("ways(4)", x.ways(4), 18);
    for (int j = 0; j <= 4; j++) {
      due.is("view(0, 17, " + j + ")", x.view(0, 17, j), of0[j]);
      due.is("view(1, 17, " + j + ")", x.view(1, 17, j), of1[j]);
      due.is("view(2, 17, " + j + ")", x.view(2, 17, j), of2[j]);
    }
    due.is("view(0, 2, 2)", x.view(0, 2, 2), 73);
    due.is("view(0, 18, 0)", x.view(0, 18, 0), BAD);
    due.is("view(0, -1, 0)", x.view(0, -1, 0), BAD);
    due.is("view(3, 0, 0)", x.view(3, 0, 0), BAD);
    due.is("view(-1, 0, 0)", x.view(-1, 0, 0), BAD);
    due.is("view(0, 0, 5)", x.view(0, 0, 5), BAD);
    due.is("view(0, 0, -1)", x.view(0, 0, -1), BAD);
    due.is("a card of five", of(5, "turn").view(1, 4, 1), 13);
  }

  private static void promise12() {
    due.part("promise 12");
    VeiledTable x = of(3, "deal 0; deal 1; ask 0 2");
    due.is("0 sees its card", x.worlds(0, 2, 72), 2);
    due.is("and the next", x.worlds(0, 2, 80), 2);
    due.is("2 sees none", x.worlds(2, 2, 64), 6);
    due.is("2 sees the choice", x.worlds(2, 3, 514), 6);
    due.is("no such view", x.worlds(2, 3, 512), 0);
    due.is("behind none", x.worlds(1, 0, 1), 1);
    due.is("behind none, another view", x.worlds(1, 0, 8), 0);
    due.is("a view below 0", x.worlds(1, 2, -1), 0);
    due.is("the least view", x.worlds(1, 2, LEAST_INT), 0);
    due.is("worlds(3, 0, 1)", x.worlds(3, 0, 1), BAD);
    due.is("worlds(-1, 0, 1)", x.worlds(-1, 0, 1), BAD);
    due.is("worlds(0, 4, 1)", x.worlds(0, 4, 1), BAD);
    due.is("worlds(0, -1, 1)", x.worlds(0, -1, 1), BAD);
  }

  private static void promise13() {
    due.part("promise 13");
    VeiledTable x = of(3, "deal 0; deal 1; ask 0 2");
    // Behind two: 0 1, 0 2, 1 0, 1 2, 2 0, 2 1. Player 1 with card 2: ways 1 and 3.
    due.is("world(1, 2, 67, 0)", x.world(1, 2, 67, 0), 1);
    due.is("the first of all", x.world(0, 2, 72, 0), 0);
    due.is("the last of all", x.world(2, 2, 64, 5), 5);
    due.is("behind the last of all", x.world(2, 2, 64, 6), PLACE);
    due.is("world(1, 2, 67, 1)", x.world(1, 2, 67, 1), 3);
    due.is("world(1, 2, 67, 2)", x.world(1, 2, 67, 2), PLACE);
    due.is("world(1, 2, 67, -1)", x.world(1, 2, 67, -1), PLACE);
    due.is("no such view", x.world(1, 2, 64, 0), PLACE);
    due.is("behind three, by their number there", x.world(1, 3, 538, 1), 7);
    due.is("world(3, 2, 67, 0)", x.world(3, 2, 67, 0), BAD);
    due.is("world(1, 4, 67, 9)", x.world(1, 4, 67, 9), BAD);
    due.is("world(1, -1, 67, 0)", x.world(1, -1, 67, 0), BAD);
  }

  private static void promise14() {
    due.part("promise 14");
    VeiledTable x = of(3, "deal 0; ask 0 2; toss 2");
    // 0 asks with the greatest card alone.
    x.plan(0, 1, 11, 1);
    due.is("its card is 2, asked", x.odds(1, 2, 66, 0, 2, 0), 1);
    due.is("below", x.odds(1, 2, 66, 0, 2, 1), 1);
    due.is("its card is 1, asked", x.odds(1, 2, 66, 0, 1, 0), 0);
    due.is("below nothing", x.odds(1, 2, 66, 0, 1, 1), 1);
    due.is("its card is 1, not asked", x.odds(1, 2, 65, 0, 1, 0), 1);
    due.is("of two", x.odds(1, 2, 65, 0, 1, 1), 2);
    due.is("before it is asked", x.odds(1, 1, 8, 0, 1, 1), 3);
    due.is("lowest terms: two of six", x.odds(1, 3, 521, 0, 0, 1), 2);
    due.is("what can't be", x.odds(1, 2, 65, 0, -5, 0), 0);
    due.is("no way has it", x.odds(1, 2, 64, 0, 1, 0), NO + NONE);
    x.plan(0, 1, 11, 0);
    due.is("no played way has it", x.odds(1, 2, 66, 0, 2, 0), NO + NONE);
    due.is("odds(3, ..)", x.odds(3, 2, 65, 0, 1, 0), NO + BAD);
    due.is("i is not below j", x.odds(1, 2, 65, 2, 1, 0), NO + BAD);
    due.is("i below 0", x.odds(1, 2, 65, -1, 1, 0), NO + BAD);
    due.is("j too great", x.odds(1, 4, 65, 0, 1, 0), NO + BAD);
    due.is("part", x.odds(1, 2, 65, 0, 1, 2), NO + BAD);
    due.is("bad stands ahead of none", x.odds(1, 2, 64, 0, 1, -1), NO + BAD);
    // A choice behind j doesn't matter, and a plan of a later view is found by that view.
    VeiledTable y = of(2, "peek 1 3; veil 0 2; ask 1 2");
    y.plan(1, 2, 80, 1);
    due.is("all three", y.odds(0, 2, 65, 0, 1, 1), 3);
    due.is("who asks has 1", y.odds(0, 3, 522, 0, 1, 0), 1);
    due.is("for sure", y.odds(0, 3, 522, 0, 1, 1), 1);
  }

  private static void promise15() {
    due.part("promise 15");
    VeiledTable x = of(3, "deal 0; ask 1 2; deal 1; veil 0 3; ask 1 2");
    due.is("sets(0)", x.sets(0), 6);
    due.is("sets(1): one, then by card and choice", x.sets(1), 7);
    due.is("sets(2)", x.sets(2), 0);
    due.is("sets(3)", x.sets(3), BAD);
    due.is("sets(-1)", x.sets(-1), BAD);
    due.is("many", of(5, "deal 0; deal 0; ask 0 3; ask 0 3; ask 0 3; ask 0 3").sets(0), 800);
    due.is("none without a choice", of(3, "deal 0; toss 3; show 0").sets(0), 0);
  }

  private static void promise16() {
    due.part("promise 16");
    VeiledTable x = of(3, "deal 0; ask 1 2; deal 1; veil 0 3; ask 1 2");
    // Player 1: {} behind 1; then choice and card behind 4, its own choice first.
    int[][] sets = {{1, 8, 3}, {4, 4168, 6}, {4, 4176, 6}, {4, 4184, 6}, {4, 4232, 6}, {4, 4240, 6}, {4, 4248, 6}};
    for (int n = 0; n < sets.length; n++) {
      for (int what = 0; what < 3; what++) due.is("setOf(1, " + n + ", " + what + ")", x.setOf(1, n, what), sets[n][what]);
      due.is("no plan is told", x.setOf(1, n, 3), 0);
    }
    due.is("plan", x.plan(1, 4, 4184, 1), 0);
    due.is("told", x.setOf(1, 3, 3), 1);
    due.is("others aren't", x.setOf(1, 2, 3), 0);
    due.is("setOf(1, 7, 0)", x.setOf(1, 7, 0), PLACE);
    due.is("setOf(1, -1, 0)", x.setOf(1, -1, 0), PLACE);
    due.is("setOf(2, 0, 0)", x.setOf(2, 0, 0), PLACE);
    due.is("setOf(1, 9, 4)", x.setOf(1, 9, 4), BAD);
    due.is("setOf(1, 0, -1)", x.setOf(1, 0, -1), BAD);
    due.is("setOf(3, 0, 0)", x.setOf(3, 0, 0), BAD);
    // A plan for three, while two are there.
    VeiledTable y = of(3, "ask 0 3");
    y.plan(0, 0, 1, 2);
    y.drop();
    y.stage(VEIL, 0, 2);
    due.is("not below k", y.setOf(0, 0, 3), 0);
    due.is("but still told", y.count(2), 1);
    y.drop();
    y.stage(VEIL, 0, 3);
    due.is("below it again", y.setOf(0, 0, 3), 2);
  }

  private static void promise17() {
    due.part("promise 17");
    due.is("no stages", new VeiledTable().recalls(0), 1);
    due.is("all in the open", of(3, "ask 0 2; ask 0 2; veil 0 3").recalls(0), 1);
    VeiledTable x = of(3, "deal 0; veil 0 2; forget 0; ask 0 2");
    due.is("forgets card and choice", x.recalls(0), 0);
    due.is("others have no sets", x.recalls(1), 1);
    due.is("forgets the card alone", of(3, "deal 0; forget 0; ask 0 2").recalls(0), 1);
    due.is("forgets the choice alone", of(3, "veil 0 2; forget 0; ask 0 2").recalls(0), 0);
    due.is("another forgets", of(3, "veil 0 2; forget 1; ask 0 2").recalls(0), 1);
    due.is("forgets what it knew as it chose", of(3, "deal 0; ask 0 2; forget 0; ask 0 2; show 1").recalls(0), 0);
    due.is("one card, nothing to forget but the choice", of(1, "deal 0; forget 0; veil 0 2; veil 0 2").recalls(0), 1);
    due.is("is shown again by another", of(3, "ask 0 2; forget 0; show 1; ask 0 2").recalls(0), 1);
    due.is("recalls(3)", x.recalls(3), BAD);
    due.is("recalls(-1)", x.recalls(-1), BAD);
    // The last view tells a card, that of the first choice doesn't: two of one set are always alike there.
    due.is("learns more", of(3, "deal 1; ask 0 2; show 1; ask 0 2").recalls(0), 1);
  }

  private static void promise18() {
    due.part("promise 18");
    VeiledTable x = of(3, "deal 0; ask 0 3; veil 1 2");
    due.is("plan(0, 1, 9, 2)", x.plan(0, 1, 9, 2), 0);
    due.is("plan(0, 1, 9, 1)", x.plan(0, 1, 9, 1), 2);
    due.is("plan(0, 1, 10, 0)", x.plan(0, 1, 10, 0), 0);
    due.is("count(2)", x.count(2), 2);
    due.is("no such set", x.plan(0, 1, 8, 0), NONE);
    due.is("no such set", x.plan(1, 2, 64, 0), NONE);
    due.is("no such set, by far", x.plan(1, 2, LEAST_INT, 0), NONE);
    due.is("choice", x.plan(0, 1, 9, 3), BAD);
    due.is("choice of two", x.plan(1, 2, 65, 2), BAD);
    due.is("choice", x.plan(0, 1, 9, -1), BAD);
    due.is("bad stands ahead of none", x.plan(0, 1, 8, 3), BAD);
    due.is("of another", x.plan(1, 1, 8, 0), BAD);
    due.is("no choice there", x.plan(0, 0, 1, 0), BAD);
    due.is("no stage", x.plan(0, 3, 1, 0), BAD);
    due.is("no stage", x.plan(0, -1, 1, 0), BAD);
    due.is("no player", x.plan(3, 1, 9, 0), BAD);
    due.is("count(2)", x.count(2), 2);
    // 45 sets: forty are told.
    VeiledTable y = of(5, "deal 0; peek 0 3; peek 0 3; veil 0 3");
    for (int n = 0; n < 40; n++) due.is("plan " + n, y.plan(0, 3, y.setOf(0, n, 1), 1), 0);
    due.is("one more", y.plan(0, 3, y.setOf(0, 40, 1), 1), FULL);
    due.is("none stands ahead of full", y.plan(0, 3, 1, 1), NONE);
    due.is("bad stands ahead of full", y.plan(0, 3, y.setOf(0, 40, 1), 3), BAD);
    due.is("one that is told", y.plan(0, 3, y.setOf(0, 39, 1), 2), 1);
    due.is("changed", y.setOf(0, 39, 3), 2);
    due.is("count(2)", y.count(2), 40);
    // Plans stay as stages go and come.
    y.drop();
    y.stage(VEIL, 0, 2);
    due.is("too great now", y.plan(0, 3, y.setOf(0, 39, 1), 1), 0);
    due.is("as it was told", y.plan(0, 3, y.setOf(0, 38, 1), 1), 1);
  }

  private static void promise19() {
    due.part("promise 19");
    VeiledTable x = of(3, "deal 1; ask 1 3; ask 0 2; ask 2 3");
    int z = 7;
    due.is("sets", x.sets(0) + x.sets(1) + x.sets(2), 3 + 3 + 6);
    due.is("lot(7)", x.lot(7), 12);
    for (int p = 0; p < 3; p++) {
      for (int n = 0; n < x.sets(p); n++) {
        z = z * 1103515245 + 12345;
        due.is("drawn for " + p + ", " + n, x.setOf(p, n, 3), (z >>> 8) % (p == 0 ? 2 : 3));
      }
    }
    due.is("count(2)", x.count(2), 12);
    due.is("again", x.lot(-7), 12);
    due.is("count(2)", x.count(2), 12);
    due.is("without sets", new VeiledTable().lot(1), 0);
    VeiledTable y = of(5, "deal 2; peek 2 3; peek 2 3; veil 2 3; ask 0 2");
    due.is("plans for one of them ahead", y.plan(2, 3, y.setOf(2, 44, 1), 1), 0);
    due.is("46 sets", y.lot(3), FULL);
    due.is("count(2)", y.count(2), 40);
    z = 3 * 1103515245 + 12345;
    due.is("those of player 0 are told first", y.setOf(0, 0, 3), (z >>> 8) % 2);
    z = z * 1103515245 + 12345;
    due.is("then those of 2", y.setOf(2, 0, 3), (z >>> 8) % 3);
    due.is("what stands behind the end stays", y.setOf(2, 44, 3), 1);
    due.is("and no other comes", y.plan(2, 3, y.setOf(2, 38, 1), 1), FULL);
    y.unplan();
    y.drop();
    y.drop();
    due.is("no sets", y.lot(3), 0);
  }

  private static void promise20() {
    due.part("promise 20");
    VeiledTable x = of(3, "ask 0 3; ask 1 3");
    due.is("none", x.unplan(), 0);
    x.plan(0, 0, 1, 2);
    x.plan(1, 1, 11, 2);
    due.is("two", x.unplan(), 2);
    due.is("none", x.unplan(), 0);
    due.is("count(2)", x.count(2), 0);
    due.is("as if never told", x.setOf(0, 0, 3), 0);
  }

  private static void promise21() {
    due.part("promise 21");
    VeiledTable x = new VeiledTable();
    int[][] wrong = {{-1, 0, 0, 0, 1, 0, 0}, {5, 0, 0, 0, 1, 0, 0}, {0, -1, 0, 0, 1, 0, 0}, {0, 8, 0, 0, 1, 0, 0}, {0, 0, -1, 0, 1, 0, 0},
      {0, 0, 8, 0, 1, 0, 0}, {0, 0, 0, -1, 1, 0, 0}, {0, 0, 0, 3, 1, 0, 0}, {0, 0, 0, 0, 3, 0, 0}, {0, 0, 0, 0, -1, 0, 0}, {0, 0, 0, 1, 1, 0, 0},
      {0, 0, 0, 0, 1, -1, 0}, {0, 0, 0, 0, 1, 5, 0}, {0, 0, 0, 0, 1, 0, 100}, {0, 0, 0, 0, 1, 0, -100}};
    for (int[] w : wrong) due.is("rule", x.rule(w[0], w[1], w[2], w[3], w[4], w[5], w[6]), BAD);
    due.is("count(3)", x.count(3), 0);
    due.is("the greatest", x.rule(4, 7, 7, 2, 1, 4, 99), 0);
    due.is("the least", x.rule(0, 0, 0, 0, 1, 0, -99), 1);
    for (int n = 2; n < 8; n++) due.is("rule", x.rule(1, 2, 3, 0, 2, 3, 1), n);
    due.is("a ninth", x.rule(1, 2, 3, 0, 2, 3, 1), FULL);
    due.is("a wrong ninth", x.rule(5, 2, 3, 0, 2, 3, 1), BAD);
    due.is("count(3)", x.count(3), 8);
  }

  private static void promise22() {
    due.part("promise 22");
    // Ways: 0 0, 0 1, 1 0, 1 1, 2 0, 2 1.
    VeiledTable x = of(3, "turn; ask 0 2");
    x.worth(0, 4);
    x.worth(1, -5);
    x.worth(2, 6);
    int[][] rules = {{0, 0, 0, 0, 1, 0, 7}, {1, 0, 1, 0, 1, 1, 2}, {2, 0, 1, 0, 1, 2, 3}, {3, 0, 1, 0, 1, 4, 9}, {4, 1, 0, 0, 1, 3, 1},
      {4, 4, 0, 0, 1, 3, 10}, {0, 1, 0, 0, 1, 1, 1}, {0, 6, 0, 0, 1, 3, 100 - 1}};
    int[][] amounts = {{7, 7, 7, 7, 7, 7}, {8, 0, 0, -10, 0, 0}, {0, 0, 3, 0, 6, 3}, {18, 0, 0, 9, 9, 0}, {0, 9, -9, 0, 13, 13},
      {19, 0, 0, 1, 0, 0}, {4, -5, 4, -5, 4, -5}, {103, 94, 103, 94, 103, 94}};
    for (int[] r : rules) x.rule(r[0], r[1], r[2], r[3], r[4], r[5], r[6]);
    for (int n = 0; n < 8; n++) {
      for (int way = 0; way < 6; way++) due.is("ruleOf(" + n + ", " + way + ")", x.ruleOf(n, way), amounts[n][way]);
    }
    due.is("ruleOf(8, 0)", x.ruleOf(8, 0), BAD);
    due.is("ruleOf(-1, 0)", x.ruleOf(-1, 0), BAD);
    due.is("ruleOf(0, 6)", x.ruleOf(0, 6), BAD);
    due.is("ruleOf(0, -1)", x.ruleOf(0, -1), BAD);
    missingStagesAndRules();
  }

  private static void missingStagesAndRules() {
    VeiledTable x = of(1, "ask 0 3");
    x.worth(0, 5);
    int[][] rules = {{1, 0, 1, 0, 1, 0, 7}, {4, 0, 0, 0, 1, 0, 7}, {4, 2, 0, 0, 1, 0, 7}, {4, 5, 0, 0, 1, 0, 7}, {0, 4, 0, 0, 1, 3, 7},
      {0, 4, 0, 0, 1, 3, 7}, {0, 0, 1, 0, 1, 2, 7}, {0, 1, 0, 0, 1, 4, 7}};
    int[] first = {0, 7, 0, 0, 0, 7, 0, 0};
    for (int[] r : rules) x.rule(r[0], r[1], r[2], r[3], r[4], r[5], r[6]);
    for (int n = 0; n < 8; n++) due.is("ruleOf(" + n + ", 0)", x.ruleOf(n, 0), first[n]);
    x.unrule();
    x.rule(4, 0, 0, 0, 1, 1, 2);
    due.is("the test of a rule whose own is of none", x.ruleOf(7, 0), 10);
    due.is("no card 1 in a pack of one", x.ruleOf(7, 1), 0);
    x.unrule();
    x.rule(0, 1, 0, 0, 1, 1, 2);
    due.is("no stage for a card", x.ruleOf(7, 0), 0);
    x.stage(ASK, 0, 2);
    due.is("it comes", x.ruleOf(7, 0), 10);
    due.is("and is another", x.ruleOf(7, 1), 0);
    due.is("the first test has its stages now", x.ruleOf(0, 0), 7);
    due.is("less", x.ruleOf(6, 5), 7);
    due.is("less, below 0", x.ruleOf(6, 1), -7);
    x.drop();
    due.is("and gone", x.ruleOf(0, 0), 0);
    VeiledTable y = of(3, "ask 0 3");
    y.rule(2, 1, 0, 0, 1, 0, 1);
    y.rule(3, 0, 1, 0, 1, 0, 1);
    y.rule(2, 0, 1, 0, 1, 0, 1);
    y.rule(0, 0, 1, 0, 1, 2, 1);
    y.rule(0, 1, 0, 0, 1, 2, 1);
    for (int n = 0; n < 5; n++) due.is("rule " + n + " of a stage that isn't there", y.ruleOf(n, 2), 0);
  }

  private static void promise23() {
    due.part("promise 23");
    VeiledTable x = new VeiledTable();
    due.is("unrule()", x.unrule(), STATE);
    x.rule(0, 0, 0, 0, 1, 0, 1);
    x.rule(0, 0, 0, 0, 1, 0, 2);
    due.is("unrule()", x.unrule(), 1);
    due.is("the last is gone", x.pay(1, 0), 1);
    due.is("ruleOf(1, 0)", x.ruleOf(1, 0), BAD);
    due.is("another has its number", x.rule(0, 0, 0, 0, 1, 3, 5), 1);
    due.is("and adds to the first", x.ruleOf(1, 0), 6);
    due.is("unrule()", x.unrule(), 1);
    due.is("unrule()", x.unrule(), 0);
    due.is("unrule()", x.unrule(), STATE);
  }

  private static void promise24() {
    due.part("promise 24");
    VeiledTable x = of(3, "turn; ask 0 2");
    x.rule(0, 0, 0, 0, 1, 2, 2);
    x.rule(2, 0, 1, 1, 2, 0, -5);
    // Way 4: card 2, number 0. X and Y of the first rule are both the card: 2 times nothing.
    due.is("pay(0, 4)", x.pay(0, 4), 0);
    due.is("pay(1, 4)", x.pay(1, 4), 5);
    due.is("pay(2, 4)", x.pay(2, 4), -5);
    x.rule(0, 0, 1, 0, 1, 2, 2);
    due.is("pay(0, 4)", x.pay(0, 4), -4);
    due.is("pay(1, 4)", x.pay(1, 4), 9);
    due.is("pay(2, 0)", x.pay(2, 0), 0);
    x.raise(10);
    due.is("times stake", x.pay(1, 4), 90);
    due.is("pay(3, 0)", x.pay(3, 0), NO + BAD);
    due.is("pay(-1, 0)", x.pay(-1, 0), NO + BAD);
    due.is("pay(0, 6)", x.pay(0, 6), NO + BAD);
    due.is("pay(0, -1)", x.pay(0, -1), NO + BAD);
    VeiledTable y = new VeiledTable();
    y.rule(0, 0, 0, 0, 1, 0, 2);
    y.raise(536870912);
    y.raise(536870912);
    y.raise(16);
    due.is("stake", y.count(4), 1L << 62);
    due.is("the least number", y.pay(0, 0), 1L << 63);
    due.is("one too great", y.pay(1, 0), NO + MUCH);
    due.is("nothing at all", y.pay(2, 0), 0);
    due.is("bad stands ahead of much", y.pay(1, 1), NO + BAD);
    y.rule(0, 0, 0, 0, 2, 0, 1);
    due.is("one too small", y.pay(0, 0), NO + MUCH);
    due.is("fits", y.pay(2, 0), 1L << 62);
  }

  private static void promise25() {
    due.part("promise 25");
    VeiledTable x = of(3, "toss 3; veil 1 2");
    x.rule(0, 0, 0, 0, 1, 4, 1);
    due.is("2, 1, 1", x.mean(1, 0), 4);
    due.is("of three", x.mean(1, 1), 3);
    due.is("paid", x.mean(0, 0), -4);
    due.is("of three", x.mean(0, 1), 3);
    due.is("nothing", x.mean(2, 0), 0);
    due.is("below it", x.mean(2, 1), 1);
    x.rule(1, 1, 1, 1, 2, 2, 1);
    due.is("a test with y as x, less nothing", x.mean(2, 0), 0);
    x.unrule();
    x.rule(0, 1, 0, 2, 1, 2, 6);
    due.is("6 times (0 less 0, 1, 2): -6, and 4 of 3", x.mean(1, 0), -14);
    x.plan(1, 1, 9, 1);
    due.is("1 if 0: 6, -6, -12: -4, and 4 of 3", x.mean(1, 0), -8);
    due.is("below", x.mean(1, 1), 3);
    x.raise(6);
    due.is("lowest terms with the stake", x.mean(1, 0), -16);
    due.is("below", x.mean(1, 1), 1);
    due.is("mean(3, 0)", x.mean(3, 0), NO + BAD);
    due.is("mean(-1, 0)", x.mean(-1, 0), NO + BAD);
    due.is("mean(0, 2)", x.mean(0, 2), NO + BAD);
    due.is("mean(0, -1)", x.mean(0, -1), NO + BAD);
    VeiledTable y = of(3, "toss 3");
    y.rule(0, 0, 0, 0, 1, 4, 1);
    y.raise(1000000000);
    y.raise(1000000000);
    due.is("stake 10^18", y.mean(1, 0), 4000000000000000000L);
    due.is("below", y.mean(1, 1), 3);
    y.image();
    y.raise(3);
    due.is("3 * 10^18", y.mean(1, 0), 4000000000000000000L);
    due.is("below", y.mean(1, 1), 1);
    y.back();
    y.raise(2);
    due.is("8 * 10^18", y.mean(1, 0), 8000000000000000000L);
    y.raise(2);
    due.is("16 * 10^18", y.mean(1, 0), NO + MUCH);
    due.is("the other part too", y.mean(1, 1), NO + MUCH);
    due.is("paid", y.mean(0, 0), NO + MUCH);
    due.is("nothing is never much", y.mean(2, 0), 0);
    due.is("bad stands ahead of much", y.mean(1, 2), NO + BAD);
    VeiledTable z = of(3, "peek 0 2; toss 2");
    z.rule(0, 0, 0, 0, 1, 0, 2);
    z.raise(536870912);
    z.raise(536870912);
    z.raise(16);
    due.is("the least number", z.mean(0, 0), 1L << 63);
    due.is("one too great", z.mean(1, 0), NO + MUCH);
  }

  private static void promise26() {
    due.part("promise 26");
    // 1 guesses what 0 turned up unseen: with a look, always; without, one of three.
    VeiledTable x = of(3, "deal 0; ask 1 3");
    x.rule(1, 0, 1, 0, 1, 0, 6);
    due.is("in the dark", x.reply(1, 0), 2);
    due.is("below", x.reply(1, 1), 1);
    x.worth(1, 3);
    x.rule(1, 0, 1, 0, 1, 1, 1);
    due.is("better guess 1: 9 of 3", x.reply(1, 0), 3);
    due.is("its mean is that of guess 0", x.mean(1, 0), 2);
    due.is("0 has no choice", x.reply(0, 0), -2);
    x.raise(100);
    due.is("without stake", x.reply(1, 0), 3);
    VeiledTable y = of(3, "turn; ask 1 3");
    y.rule(1, 0, 1, 0, 1, 0, 6);
    due.is("with a look", y.reply(1, 0), 6);
    y.unrule();
    y.rule(2, 1, 0, 0, 1, 0, 1);
    due.is("more than it: two of three", y.reply(1, 0), 2);
    due.is("below", y.reply(1, 1), 3);
    // The others as told: 0 chooses 1 unseen, 1 seeks the same number.
    VeiledTable z = of(3, "veil 0 3; ask 1 3");
    z.rule(1, 0, 1, 0, 1, 0, 5);
    z.plan(0, 0, 1, 1);
    due.is("mean", z.mean(1, 0), 0);
    due.is("reply", z.reply(1, 0), 5);
    due.is("and 0 flees", z.reply(0, 0), 0);
    due.is("reply changes no plan", z.count(2), 1);
    due.is("reply(3, 0)", x.reply(3, 0), NO + BAD);
    due.is("reply(-1, 0)", x.reply(-1, 0), NO + BAD);
    due.is("reply(0, 2)", x.reply(0, 2), NO + BAD);
    due.is("3^6", of(3, "toss 3; toss 2; ask 0 3").reply(0, 1), 1);
    due.is("2^9", of(3, "toss 3; toss 3; ask 0 2").reply(0, 1), 1);
    VeiledTable much = of(5, "deal 0; toss 2; ask 0 2");
    due.is("2^10", much.reply(0, 0), NO + MUCH);
    due.is("not of the others", much.reply(1, 0), 0);
    due.is("bad stands ahead of much", much.reply(0, 2), NO + BAD);
    due.is("800 sets", of(5, "deal 0; deal 0; ask 0 3; ask 0 3; ask 0 3; ask 0 3").reply(0, 1), NO + MUCH);
    forgetfulReply();
  }

  /** Who forgets has to choose alike in ways that can't be told apart. */
  private static void forgetfulReply() {
    VeiledTable x = of(3, "peek 0 2; ask 0 2; forget 0; ask 0 2");
    x.rule(1, 0, 1, 1, 0, 0, 4);
    x.rule(1, 0, 3, 1, 0, 0, 2);
    due.is("always the first, half of the second", x.reply(0, 0), 5);
    due.is("below", x.reply(0, 1), 1);
  }

  private static void promise27() {
    due.part("promise 27");
    VeiledTable x = of(3, "turn; ask 1 3; ask 0 2");
    x.rule(1, 0, 1, 0, 1, 0, 6);
    due.is("guesses 0, 1, 2 for 0, 0, 0", x.better(1), 2);
    for (int n = 0; n < 3; n++) due.is("setOf(1, " + n + ", 3)", x.setOf(1, n, 3), n);
    due.is("each set is told", x.count(2), 3);
    due.is("nothing is better", x.better(1), 0);
    due.is("all alike: the least", x.better(0), 0);
    due.is("told too", x.count(2), 12);
    x.plan(0, 2, x.setOf(0, 4, 1), 1);
    due.is("back to the least", x.better(0), 1);
    due.is("better(2) has no sets", x.better(2), 0);
    due.is("better(3)", x.better(3), BAD);
    due.is("better(-1)", x.better(-1), BAD);
    // The first of equals: any but 0 is as good; least by sets in order.
    VeiledTable y = of(3, "ask 0 3");
    y.rule(2, 0, 1, 0, 1, 0, 9);
    y.stage(SHOW, 0, 0);
    y.plan(0, 0, 1, 2);
    y.unrule();
    y.rule(2, 0, 1, 1, 0, 0, 9);
    due.is("1 and 2 are more than 0", y.better(0), 1);
    due.is("1 comes first", y.setOf(0, 0, 3), 1);
    VeiledTable much = of(5, "deal 0; toss 2; ask 0 2");
    due.is("2^10", much.better(0), MUCH);
    due.is("count(2)", much.count(2), 0);
    // Player 0 has two sets, one of which is told; plans of player 2 leave room for the other, or don't.
    VeiledTable full = of(5, "toss 2; ask 0 2; deal 2; peek 2 2; veil 2 3");
    int sets = full.sets(2);
    due.is("sets of 2", sets, 40);
    for (int n = 0; n < 38; n++) full.plan(2, 4, full.setOf(2, n, 1), 1);
    full.plan(0, 1, 9, 1);
    due.is("39 are told", full.count(2), 39);
    due.is("40 do", full.better(0), 1);
    due.is("count(2)", full.count(2), 40);
    full.unplan();
    for (int n = 0; n < 39; n++) full.plan(2, 4, full.setOf(2, n, 1), 1);
    full.plan(0, 1, 9, 1);
    due.is("a plan of 0 for it is told as 0", full.plan(0, 1, 10, 0), FULL);
    due.is("41 would be", full.better(0), FULL);
    due.is("nothing changed", full.setOf(0, 0, 3), 1);
    due.is("count(2)", full.count(2), 40);
    due.is("much stands ahead of full", full.better(2), MUCH);
  }

  private static void promise28() {
    due.part("promise 28");
    // Matching pennies: no plans without a draw are at rest.
    VeiledTable x = of(3, "veil 0 2; veil 1 2");
    x.rule(1, 0, 1, 1, 0, 0, 1);
    x.rule(4, 0, 0, 0, 1, 0, 1);
    due.is("settled()", x.settled(), 0);
    x.plan(1, 1, 8, 1);
    due.is("settled()", x.settled(), 0);
    x.plan(0, 0, 1, 1);
    due.is("settled()", x.settled(), 0);
    x.unrule();
    due.is("alike is best for 0, 1 flees", x.settled(), 0);
    x.plan(1, 1, 8, 0);
    due.is("0 could be alike", x.settled(), 0);
    VeiledTable y = of(3, "turn; ask 1 3");
    y.rule(1, 0, 1, 0, 1, 0, 6);
    due.is("1 could guess better", y.settled(), 0);
    y.better(1);
    due.is("not now", y.settled(), 1);
    y.raise(1000000000);
    y.raise(1000000000);
    due.is("whatever the stake", y.settled(), 1);
    due.is("no stages", new VeiledTable().settled(), 1);
    VeiledTable much = of(5, "ask 0 2; veil 1 2; deal 2; toss 2; ask 2 2");
    much.rule(1, 0, 1, 0, 1, 0, 6);
    due.is("much of any", much.settled(), MUCH);
    due.is("much of player 0", of(5, "deal 0; toss 2; ask 0 2").settled(), MUCH);
    due.is("much of player 1", of(5, "deal 1; toss 2; ask 1 2").settled(), MUCH);
  }

  private static void promise29() {
    due.part("promise 29");
    VeiledTable x = new VeiledTable();
    due.is("raise(0)", x.raise(0), BAD);
    due.is("raise(-1)", x.raise(-1), BAD);
    due.is("raise(1000000001)", x.raise(1000000001L), BAD);
    due.is("raise(the least)", x.raise(1L << 63), BAD);
    due.is("raise(1)", x.raise(1), 1);
    due.is("count(4)", x.count(4), 1);
    due.is("raise(1000000000)", x.raise(1000000000L), 1);
    due.is("raise(1000000000)", x.raise(1000000000L), 1);
    due.is("raise(10)", x.raise(10), MUCH);
    due.is("nothing changed", x.count(4), 1000000000000000000L);
    due.is("raise(9)", x.raise(9), 1);
    due.is("raise(2)", x.raise(2), MUCH);
    due.is("raise(1)", x.raise(1), 1);
    due.is("bad stands ahead of much", x.raise(1000000001L), BAD);
    VeiledTable y = new VeiledTable();
    // 7 * 7 * 73 * 127 * 337 * 92737 * 649657 is the greatest number of 64 bits.
    long[] parts = {7 * 7 * 73 * 127, 337L * 92737, 649657};
    for (long by : parts) due.is("raise(" + by + ")", y.raise(by), 1);
    due.is("the greatest", y.count(4), -1L >>> 1);
    due.is("raise(2)", y.raise(2), MUCH);
    due.is("raise(1)", y.raise(1), 1);
    VeiledTable z = new VeiledTable();
    for (int n = 0; n < 2; n++) z.raise(536870912);
    due.is("2^62", z.raise(16), 1);
    due.is("2^63", z.raise(2), MUCH);
  }

  private static void promise30() {
    due.part("promise 30");
    VeiledTable x = new VeiledTable();
    due.is("feed(0, 0)", x.feed(0, 0), BAD);
    due.is("feed(5, 0)", x.feed(5, 0), BAD);
    due.is("feed(-1, 0)", x.feed(-1, 0), BAD);
    due.is("the highest first", x.feed(3, 't' << 24 | 'u' << 16 | 'r' << 8 | 'x'), 3);
    due.is("one", x.feed(1, 'n' << 24 | 'x' << 16), 4);
    due.is("turn", x.text(), 1);
    due.is("stageOf(0, 0)", x.stageOf(0, 0), TURN);
    due.is("the tape is empty", x.feed(2, -1), 2);
    for (int n = 1; n <= 29; n++) due.is("feed(4, ..)", x.feed(4, 0), 2 + 4 * n);
    due.is("too many", x.feed(3, 0), FULL);
    due.is("a wrong n", x.feed(5, 0), BAD);
    due.is("two more", x.feed(2, 0), 120);
    due.is("full", x.feed(1, 0), FULL);
    due.is("a byte that begins none", x.text(), -100);
    due.is("feed(1, ..)", x.feed(1, 0), 1);
    // 120 bytes, all of use.
    VeiledTable y = new VeiledTable();
    for (int n = 0; n < 29; n++) y.feed(4, ' ' << 24 | ' ' << 16 | ' ' << 8 | ' ');
    due.is("120", y.feed(4, 't' << 24 | 'u' << 16 | 'r' << 8 | 'n'), 120);
    due.is("text()", y.text(), 1);
  }

  private static void faulty(VeiledTable x, String text, int fault) {
    long ahead = x.count(1);
    due.is("\"" + text + "\"", read(x, text), -100 - fault);
    due.is("nothing comes of \"" + text + "\"", x.count(1), ahead);
    due.is("the tape is empty", x.text(), -100);
  }

  private static void promise31() {
    due.part("promise 31");
    VeiledTable x = new VeiledTable();
    due.is("all kinds", read(x, "deal 2;turn;ask 1 2; veil  0 3 ;show 2 ; forget 1 "), 6);
    int[][] told = {{DEAL, 2, 0}, {TURN, 0, 0}, {ASK, 1, 2}, {VEIL, 0, 3}, {SHOW, 2, 0}, {FORGET, 1, 0}};
    for (int i = 0; i < 6; i++) for (int what = 0; what < 3; what++) due.is("stageOf", x.stageOf(i, what), told[i][what]);
    faulty(x, "toss 2", 0);
    x.drop();
    x.drop();
    due.is("behind those that are there", read(x, "  toss 3; peek 2 2"), 2);
    due.is("stageOf(4, 2)", x.stageOf(4, 2), 3);
    due.is("stageOf(5, 1)", x.stageOf(5, 1), 2);
    x.pack(3);
    due.is("a word and a number without a blank", read(x, "deal0;ask1 2"), 2);
    due.is("zeros ahead", read(x, "toss 0000000000000000000000002"), 1);
    x.pack(3);
    String[] texts = {"", " ", ";", "deal", "deal ", "deal 3", "deal 10", "deal 4294967296", "deal 00", "deal 0;", "deal 0 1", "deal x", "deal ;",
      "ask 0", "ask 0 1", "ask 0 4", "ask 0 22", "ask 02", "ask 0 2 2", "veil 3 2", "show", "show 3", "forget 0;;", "toss 2 2", "toss 9",
      "turn 0", "turn turn", "dealt 0", "Deal 0", "deal 0,", "deal 0 ;9", "a", "tos", "turn;turn;turn;turn", "turn;turn;deal 0;deal 0",
      "toss 2;toss 2;toss 2;toss 2;toss 2;toss 2;toss 2", "toss 2;toss 2;toss 2;toss 2;toss 2;toss 2;tos", "deal 0\n", "deal 0\u00e4", "\u00ff", "deal\t0",
      "deal 0:", "deal 0/", "deal`0", "deal{0", "peek 1 3; ask 1 3; show 1 3",
      "xeal 0", "dealz 0", "deal 19", "\u00e4eal 0", "peep 1 2", "tossed 2", "aask 0 2", "z"};
    int[] faults = {0, 1, 0, 4, 5, 5, 5, 5, -1, 7, 7, 5, 5, 5, 6, 6, 6, 6, 8, 5, 4, 5, 9, 7, 5, 5, 5, 0, 0, 6, 8, 0, 0, 15, 17,
      42, 42, 6, 6, 0, 4, 6, 6, 4, 4, 26,
      0, 0, 5, 0, 0, 0, 0, 0};
    for (int n = 0; n < texts.length; n++) {
      if (faults[n] >= 0) faulty(new VeiledTable(), texts[n], faults[n]);
      else due.is(texts[n], read(new VeiledTable(), texts[n]), 1);
    }
    x.pack(1);
    x.stage(TURN, 0, 0);
    faulty(x, "toss 2; deal 0", 8);
    due.is("others still come", read(x, "toss 2; show 0"), 2);
  }

  private static void promise32() {
    due.part("promise 32");
    VeiledTable x = of(3, "toss 2");
    due.is("rack(0, 0)", x.rack(0, 0), 1);
    due.is("no place", x.lay(0, 0, 0), PLACE);
    due.is("rack(0, 6)", x.rack(0, 6), 1);
    due.is("lay(0, 5, 0)", x.lay(0, 5, 0), 1);
    due.is("lay(0, 0, 0)", x.lay(0, 0, 0), 1);
    due.is("rack(0, 7)", x.rack(0, 7), BAD);
    due.is("rack(0, -1)", x.rack(0, -1), SIZE);
    due.is("rack(0, -8)", x.rack(0, -8), SIZE);
    due.is("rack(0, -10)", x.rack(0, -10), SIZE);
    due.is("rack(2, 1)", x.rack(2, 1), BAD);
    due.is("rack(-1, -1)", x.rack(-1, -1), BAD);
    due.is("it is as it was", x.build(0), 1);
    due.is("anew", x.rack(0, 6), 1);
    due.is("is empty", x.build(0), 0);
    due.is("missing", x.rack(0, -9), 1);
    due.is("build(0)", x.build(0), NOTHING);
    due.is("the other was never there", x.build(1), NOTHING);
    due.is("rack(1, 2)", x.rack(1, 2), 1);
    due.is("its own size", x.build(1), 0);
  }

  private static void promise33() {
    due.part("promise 33");
    VeiledTable x = of(3, "deal 1; veil 2 3");
    due.is("lay(0, 0, 0)", x.lay(0, 0, 0), NOTHING);
    due.is("bad stands ahead of nothing", x.lay(0, 0, 2), BAD);
    x.rack(0, 3);
    due.is("lay(0, 0, 1)", x.lay(0, 0, 1), 1);
    due.is("lay(0, 2, 1)", x.lay(0, 2, 1), 1);
    due.is("lay(0, 3, 1)", x.lay(0, 3, 1), PLACE);
    due.is("lay(0, -1, 1)", x.lay(0, -1, 1), PLACE);
    due.is("lay(0, 0, 2)", x.lay(0, 0, 2), BAD);
    due.is("lay(0, 0, -1)", x.lay(0, 0, -1), BAD);
    due.is("lay(2, 0, 0)", x.lay(2, 0, 0), BAD);
    due.is("lay(-1, 0, 0)", x.lay(-1, 0, 0), BAD);
    due.is("lay(1, 0, 0)", x.lay(1, 0, 0), NOTHING);
    due.is("over another", x.lay(0, 2, 0), 1);
    due.is("in the middle", x.lay(0, 1, 1), 1);
    x.pack(3);
    x.stage(TURN, 0, 0);
    due.is("as they were", x.build(0), 3);
    due.is("the first", x.stageOf(0, 0), VEIL);
    due.is("its player", x.stageOf(0, 1), 2);
    due.is("its k", x.stageOf(0, 2), 3);
    due.is("the last", x.stageOf(2, 0), DEAL);
  }

  private static void promise34() {
    due.part("promise 34");
    VeiledTable x = of(2, "deal 1; ask 2 3; show 1");
    x.plan(2, 1, 8, 2);
    x.rule(0, 0, 0, 0, 1, 0, 1);
    due.is("build(0)", x.build(0), NOTHING);
    due.is("build(2)", x.build(2), BAD);
    due.is("build(-1)", x.build(-1), BAD);
    x.rack(1, 6);
    int[] laid = {0, 0, 1, 0, 2};
    for (int i = 0; i < 5; i++) x.lay(1, i, laid[i]);
    due.is("until there is no card", x.build(1), 3);
    due.is("ways(3)", x.ways(3), 6);
    due.is("plans stay", x.count(2), 1);
    due.is("rules stay", x.count(3), 1);
    x.pack(3);
    due.is("with a card more, to the empty place", x.build(1), 5);
    due.is("the last", x.stageOf(4, 0), SHOW);
    due.is("its number", x.happened(0, 3), 2);
    x.pack(1);
    due.is("with one card", x.build(1), 1);
    x.rack(0, 4);
    x.lay(0, 1, 0);
    due.is("the first place is empty", x.build(0), 0);
    due.is("count(1)", x.count(1), 0);
    VeiledTable y = of(5, "toss 2");
    y.rack(1, 6);
    for (int i = 0; i < 6; i++) y.lay(1, i, 0);
    due.is("six", y.build(1), 6);
    due.is("ways(6)", y.ways(6), 64);
  }

  private static void promise35() {
    due.part("promise 35");
    VeiledTable x = of(5, "deal 0; deal 1; ask 0 2");
    due.is("what 1 may have, seen by 0 with 3", x.maybe(0, 0, 2, 8 * 12, 1), 4);
    int[] row = {1, 1, 1, 0, 1};
    for (int e = 0; e < 5; e++) due.is("read(0, " + e + ")", x.read(0, e), row[e]);
    due.is("five places", x.read(0, 5), PLACE);
    due.is("its own", x.maybe(0, 0, 2, 8 * 12, 0), 1);
    due.is("read(0, 3)", x.read(0, 3), 1);
    due.is("read(0, 4)", x.read(0, 4), 0);
    due.is("of the first way alone", x.maybe(1, 0, 1, 9, 0), 1);
    due.is("not by plans alone", x.maybe(3, 1, 3, 8 * 8 * 8 + 8 + 2, 2), 1);
    due.is("read(3, 1)", x.read(3, 1), 1);
    due.is("no such view", x.maybe(3, 1, 3, 0, 2), 0);
    due.is("all no", x.read(3, 1), 0);
    due.is("it is of yes and no", x.cell(3, 1, 9), 1);
    due.is("so", x.read(3, 1), 1);
    x.sheet(1, 1, 2);
    x.cell(1, 1, 77);
    due.is("maybe(4, ..)", x.maybe(4, 1, 2, 64, 0), BAD);
    due.is("maybe(-1, ..)", x.maybe(-1, 1, 2, 64, 0), BAD);
    due.is("p", x.maybe(1, 3, 2, 64, 0), BAD);
    due.is("j", x.maybe(1, 1, 4, 64, 0), BAD);
    due.is("i", x.maybe(1, 1, 2, 64, 2), BAD);
    due.is("i", x.maybe(1, 1, 2, 64, -1), BAD);
    due.is("nothing changed", x.read(1, 1), 77);
  }

  private static void promise36() {
    due.part("promise 36");
    VeiledTable x = new VeiledTable();
    due.is("sheet(0, 0, 40)", x.sheet(0, 0, 40), 1);
    due.is("read(0, 39)", x.read(0, 39), 0);
    due.is("read(0, 40)", x.read(0, 40), PLACE);
    x.cell(0, 39, 5);
    due.is("sheet(0, 1, 41)", x.sheet(0, 1, 41), BAD);
    due.is("sheet(0, 1, -1)", x.sheet(0, 1, -1), SIZE);
    due.is("sheet(0, 2, 1)", x.sheet(0, 2, 1), BAD);
    due.is("sheet(0, -2, 1)", x.sheet(0, -2, 1), BAD);
    due.is("sheet(4, 0, 1)", x.sheet(4, 0, 1), BAD);
    due.is("sheet(-1, 0, -1)", x.sheet(-1, 0, -1), BAD);
    due.is("sheet(0, 2, -1)", x.sheet(0, 2, -1), BAD);
    due.is("nothing changed", x.read(0, 39), 1);
    due.is("sheet(0, 1, 40)", x.sheet(0, 1, 40), 1);
    due.is("all 0", x.read(0, 39), 0);
    due.is("of ints", x.cell(0, 39, -5), 1);
    due.is("read(0, 39)", x.read(0, 39), -5);
    due.is("n doesn't matter", x.sheet(0, -1, 99), 1);
    due.is("missing", x.read(0, 0), NOTHING);
    due.is("n doesn't matter", x.sheet(0, -1, -99), 1);
    due.is("no place", x.sheet(0, 0, 0), 1);
    due.is("read(0, 0)", x.read(0, 0), PLACE);
    due.is("others are missing", x.read(1, 0), NOTHING);
  }

  private static void promise37() {
    due.part("promise 37");
    VeiledTable x = new VeiledTable();
    due.is("missing", x.cell(2, 0, 1), NOTHING);
    x.sheet(2, 0, 3);
    x.sheet(3, 1, 3);
    due.is("cell(2, 2, -7)", x.cell(2, 2, -7), 1);
    due.is("yes", x.read(2, 2), 1);
    due.is("cell(2, 2, 0)", x.cell(2, 2, 0), 1);
    due.is("no", x.read(2, 2), 0);
    due.is("cell(3, 0, LEAST)", x.cell(3, 0, LEAST_INT), 1);
    due.is("an int", x.read(3, 0), LEAST_INT);
    due.is("cell(3, 3, 1)", x.cell(3, 3, 1), PLACE);
    due.is("cell(3, -1, 1)", x.cell(3, -1, 1), PLACE);
    due.is("cell(4, 0, 1)", x.cell(4, 0, 1), BAD);
    due.is("cell(-1, 0, 1)", x.cell(-1, 0, 1), BAD);
  }

  private static void promise38() {
    due.part("promise 38");
    VeiledTable x = new VeiledTable();
    x.sheet(0, 1, 2);
    x.cell(0, 1, MOST_INT);
    due.is("read(0, 0)", x.read(0, 0), 0);
    due.is("read(0, 1)", x.read(0, 1), MOST_INT);
    due.is("read(0, 2)", x.read(0, 2), PLACE);
    due.is("read(0, -1)", x.read(0, -1), PLACE);
    due.is("read(1, -1)", x.read(1, -1), NOTHING);
    due.is("read(4, 0)", x.read(4, 0), BAD);
    due.is("read(-1, 0)", x.read(-1, 0), BAD);
  }

  private static void promise39() {
    due.part("promise 39");
    VeiledTable x = of(3, "deal 0; ask 0 3");
    due.is("missing", x.loadPlans(0, 0), NOTHING);
    due.is("no sheet", x.loadPlans(4, 0), BAD);
    due.is("no sheet", x.loadPlans(-1, 0), BAD);
    due.is("no player", x.loadPlans(0, 3), BAD);
    x.sheet(0, 1, 5);
    x.cell(0, 0, 2);
    x.cell(0, 2, 1);
    due.is("three sets", x.loadPlans(0, 0), 3);
    int[] choices = {2, 0, 1};
    for (int n = 0; n < 3; n++) due.is("setOf(0, " + n + ", 3)", x.setOf(0, n, 3), choices[n]);
    due.is("count(2)", x.count(2), 3);
    x.unplan();
    x.cell(0, 1, 3);
    due.is("not below k", x.loadPlans(0, 0), 1);
    x.cell(0, 0, -1);
    due.is("below 0", x.loadPlans(0, 0), 0);
    due.is("the plan stays", x.setOf(0, 0, 3), 2);
    x.sheet(1, 0, 2);
    x.cell(1, 0, 5);
    due.is("of yes and no", x.loadPlans(1, 0), 2);
    due.is("yes is 1", x.setOf(0, 0, 3), 1);
    due.is("who has no sets", x.loadPlans(1, 1), 0);
    VeiledTable y = of(5, "deal 0; peek 0 3; peek 0 3; veil 0 3; ask 1 2");
    y.sheet(0, 1, 40);
    for (int n = 0; n < 40; n++) y.cell(0, n, 2);
    y.plan(1, 4, 4096, 1);
    y.plan(0, 3, y.setOf(0, 3, 1), 1);
    due.is("until forty are told", y.loadPlans(0, 0), 39);
    due.is("count(2)", y.count(2), 40);
    due.is("one was told ahead", y.setOf(0, 3, 3), 2);
    due.is("the last that came", y.setOf(0, 38, 3), 2);
    due.is("the first that didn't", y.setOf(0, 39, 3), 0);
  }

  private static void promise40() {
    due.part("promise 40");
    VeiledTable x = of(3, "deal 1; show 2");
    x.rule(0, 0, 0, 0, 1, 0, 3);
    due.is("hold(0, 1, 1)", x.hold(0, 1, 1), 0);
    due.is("hold(0, 2, 0)", x.hold(0, 2, 0), 1);
    due.is("hold(0, 3, 0)", x.hold(0, 3, 0), 2);
    due.is("hold(0, 0, 7)", x.hold(0, 0, -7), 3);
    due.is("hold(0, 0, 0)", x.hold(0, 0, 0), 0);
    due.is("hold(4, 0, 0)", x.hold(4, 0, 0), BAD);
    due.is("hold(-1, 0, 0)", x.hold(-1, 0, 0), BAD);
    due.is("hold(0, 4, 0)", x.hold(0, 4, 0), BAD);
    due.is("hold(0, -1, 0)", x.hold(0, -1, 0), BAD);
    due.is("no such stage", x.hold(0, 1, 2), BAD);
    due.is("no such stage", x.hold(0, 1, -1), BAD);
    due.is("no such stage: the low half is 0", x.hold(0, 1, 4294967296L), BAD);
    due.is("no such rule", x.hold(0, 2, 1), BAD);
    due.is("no such rule: the low half is 0", x.hold(0, 2, 1L << 63), BAD);
    due.is("it holds nothing still", x.asStage(0, 2), NOTHING);
    due.is("a stage", x.hold(3, 1, 0), 0);
    x.pack(2);
    due.is("as it was", x.asStage(3, 2), DEAL);
    due.is("let go", x.hold(3, 0, 0), 1);
    due.is("nothing", x.asStage(3, 2), NOTHING);
  }

  private static void promise41() {
    due.part("promise 41");
    int[][] kinds = {{DEAL, 0, 0, 0, 1}, {TURN, 0, 0, 0, 1}, {ASK, 0, 2, 1, 0}, {VEIL, 0, 2, 1, 0}, {SHOW, 0, 0, 0, 0}, {FORGET, 0, 0, 0, 0},
      {TOSS, 0, 2, 0, 1}, {PEEK, 0, 2, 0, 1}};
    for (int[] k : kinds) {
      VeiledTable x = new VeiledTable();
      x.stage(k[0], k[1], k[2]);
      x.hold(1, 1, 0);
      x.drop();
      due.is("chooses", x.asStage(1, 0), k[3] == 1 ? k[0] : KIND);
      due.is("is chance", x.asStage(1, 1), k[4] == 1 ? k[0] : KIND);
      due.is("is any", x.asStage(1, 2), k[0]);
    }
    VeiledTable x = new VeiledTable();
    x.rule(0, 0, 0, 0, 1, 0, 3);
    due.is("nothing", x.asStage(0, 0), NOTHING);
    due.is("asStage(4, 0)", x.asStage(4, 0), BAD);
    due.is("asStage(-1, 0)", x.asStage(-1, 0), BAD);
    due.is("bad stands ahead of nothing", x.asStage(0, 3), BAD);
    due.is("asStage(0, -1)", x.asStage(0, -1), BAD);
    x.hold(0, 2, 0);
    due.is("an amount", x.asStage(0, 2), KIND);
    x.hold(0, 3, 0);
    due.is("a view", x.asStage(0, 2), KIND);
  }

  private static void promise42() {
    due.part("promise 42");
    VeiledTable x = of(2, "turn; ask 0 2");
    x.worth(1, 4);
    x.rule(2, 0, 1, 0, 1, 1, 5);
    x.rule(0, 0, 0, 0, 1, 3, 7);
    x.hold(0, 2, 0);
    x.hold(1, 2, 1);
    due.is("card 0 is worth nothing", x.asAmount(0, 0), 0);
    due.is("whatever the test says", x.asAmount(0, 3), 20);
    due.is("and 7", x.asAmount(1, 3), 27);
    x.unrule();
    x.unrule();
    x.rule(0, 0, 0, 0, 1, 0, 1);
    due.is("as it was put together", x.asAmount(1, 3), 27);
    x.worth(1, -1);
    due.is("worths as they are", x.asAmount(1, 3), 2);
    x.drop();
    x.drop();
    due.is("without the stage", x.asAmount(1, 0), 7);
    due.is("no such way", x.asAmount(1, 1), BAD);
    due.is("no such way", x.asAmount(1, -1), BAD);
    x.stage(PEEK, 0, 3);
    due.is("a number is a card too", x.asAmount(1, 1), 2);
    due.is("if there is that card", x.asAmount(0, 2), 0);
    due.is("asAmount(4, 0)", x.asAmount(4, 0), BAD);
    due.is("asAmount(-1, 0)", x.asAmount(-1, 0), BAD);
    due.is("nothing", x.asAmount(2, 0), NOTHING);
    due.is("bad stands ahead of nothing", x.asAmount(2, 3), BAD);
    x.hold(2, 1, 0);
    due.is("a stage", x.asAmount(2, 0), KIND);
    x.hold(2, 3, 0);
    due.is("a view", x.asAmount(2, 0), KIND);
  }

  private static void promise43() {
    due.part("promise 43");
    VeiledTable x = of(3, "deal 0; toss 2");
    due.is("nothing", x.asView(0, 0, 1), NOTHING);
    due.is("bad stands ahead of nothing", x.asView(0, 3, 1), BAD);
    x.hold(0, 3, 9);
    due.is("asView(0, 0, 1)", x.asView(0, 0, 1), 1);
    due.is("asView(0, 1, 1)", x.asView(0, 1, 1), 0);
    due.is("asView(0, 0, 2)", x.asView(0, 0, 2), 0);
    x.hold(0, 3, 66);
    due.is("asView(0, 1, 2)", x.asView(0, 1, 2), 3);
    due.is("asView(0, 1, 3)", x.asView(0, 1, 3), BAD);
    due.is("asView(0, 1, -1)", x.asView(0, 1, -1), BAD);
    due.is("asView(4, 1, 2)", x.asView(4, 1, 2), BAD);
    due.is("asView(-1, 1, 2)", x.asView(-1, 1, 2), BAD);
    x.hold(0, 3, (1L << 32) + 66);
    due.is("a long is not its low half", x.asView(0, 1, 2), 0);
    x.hold(1, 1, 0);
    due.is("a stage", x.asView(1, 0, 0), KIND);
    x.rule(0, 0, 0, 0, 1, 0, 0);
    x.hold(1, 2, 0);
    due.is("an amount", x.asView(1, 0, 0), KIND);
  }

  private static void promise44() {
    due.part("promise 44");
    VeiledTable x = new VeiledTable();
    due.is("image()", x.image(), 0);
    read(x, "ask 0 2; toss 3");
    due.is("back to none", x.back(), 0);
    due.is("count(1)", x.count(1), 0);
    read(x, "ask 0 2; toss 3");
    due.is("another image", x.image(), 2);
    due.is("it changes nothing", x.count(1), 2);
    x.pack(4);
    due.is("the newer", x.back(), 2);
  }

  private static void promise45() {
    due.part("promise 45");
    VeiledTable x = new VeiledTable();
    due.is("back()", x.back(), STATE);
    x.pack(4);
    x.worth(3, 7);
    read(x, "deal 1; ask 1 3; show 1");
    x.plan(1, 1, 12, 2);
    x.rule(0, 0, 0, 0, 1, 1, 2);
    x.raise(6);
    due.is("image()", x.image(), 3);
    x.worth(3, -1);
    x.plan(1, 1, 12, 1);
    x.plan(1, 1, 9, 1);
    x.unrule();
    x.rule(1, 0, 1, 2, 0, 0, 9);
    x.rule(0, 0, 0, 0, 1, 0, 9);
    x.raise(5);
    x.drop();
    x.stage(TOSS, 0, 3);
    x.rack(0, 1);
    x.sheet(0, 1, 1);
    x.hold(0, 3, 5);
    x.feed(1, 0);
    for (int time = 0; time < 2; time++) {
      due.is("back()", x.back(), 3);
      due.is("cards", x.count(0), 4);
      due.is("stages", x.count(1), 3);
      due.is("plans", x.count(2), 1);
      due.is("rules", x.count(3), 1);
      due.is("stake", x.count(4), 6);
      due.is("a stage", x.stageOf(2, 0), SHOW);
      due.is("a view", x.worlds(0, 3, 8 * 8 * 12 + 8 * 3 + 1), 1);
      due.is("a plan", x.setOf(1, 3, 3), 2);
      due.is("no other plan", x.setOf(1, 0, 3), 0);
      due.is("a worth, a rule, a stake", x.pay(1, 11), 2 * 7 * 6);
      due.is("a worth", x.worth(3, 0), 7);
      x.pack(1);
      x.stage(ASK, 2, 2);
      x.plan(2, 0, 1, 1);
    }
    due.is("the rack is not kept", x.build(0), 0);
    due.is("nor the sheet", x.read(0, 0), 0);
    due.is("nor the hand", x.hold(0, 0, 0), 3);
    due.is("nor the tape", x.feed(1, 0), 2);
  }

  private static void promise46() {
    due.part("promise 46");
    VeiledTable x = of(4, "ask 0 2; ask 1 2");
    x.plan(0, 0, 1, 1);
    x.plan(1, 1, 9, 1);
    x.plan(1, 1, 10, 1);
    x.rule(0, 0, 0, 0, 1, 0, 1);
    x.raise(77);
    long[] counts = {4, 2, 3, 1, 77};
    for (int what = 0; what < 5; what++) due.is("count(" + what + ")", x.count(what), counts[what]);
    due.is("count(5)", x.count(5), NO + BAD);
    due.is("count(-1)", x.count(-1), NO + BAD);
    due.is("count(LEAST)", x.count(LEAST_INT), NO + BAD);
  }
}
