/**
 * Games in which not all see all. DOC.md says what every call promises: here each call looks at what it is given,
 * and the classes inside do the work. All rows are made with the object and used again by every call.
 */
public final class VeiledTable {
  public static final int NONE = -1, BAD = -2, STATE = -3, FULL = -4, MUCH = -5, NOTHING = -11, PLACE = -12, KIND = -13, SIZE = -14;
  public static final long NO = -4611686018427387904L;

  private static final int PLAYERS = 3;
  private static final int ALL_PLAYERS = 7;
  private static final int FIRST_CARDS = 3;
  private static final int MAX_CARDS = 5;
  private static final int MAX_WORTH = 9;
  private static final int MAX_STAGES = 6;
  // 5 * 4 * 3 * 3 * 3 * 3: no six stages go in more ways.
  private static final int MAX_WAYS = 1620;
  // 1 + 5 + 20 + 60 + 180 + 540: no stages have more ways behind 0, 1, .. 5 of them, together.
  private static final int MAX_SETS = 806;
  private static final int MAX_PLANS = 40;
  private static final int MAX_RULES = 8;
  private static final int MAX_V = 99;
  private static final int MAX_TRIES = 729;
  private static final long MAX_RAISE = 1000000000L;
  private static final long MOST = 9223372036854775807L;
  private static final long LEAST = -9223372036854775807L - 1L;
  private static final int MAX_TAPE = 120;
  private static final int FAULTS = -100;
  private static final int RACKS = 2;
  private static final int SHEETS = 4;
  private static final int HANDS = 4;
  private static final int MAX_CELLS = 40;
  private static final int MISSING = -1;
  private static final int UNRACK = -9;
  private static final int YES_OR_NO = 0;
  private static final int INTS = 1;
  private static final int HOLDS_NOTHING = 0;
  private static final int HOLDS_STAGE = 1;
  private static final int HOLDS_AMOUNT = 2;
  private static final int HOLDS_VIEW = 3;
  private static final Kind[] KINDS = Kind.values();

  private final Game game = new Game();
  private final Game kept = new Game();
  private boolean isKept = false;
  private final Sets held = new Sets();
  private final Play play = new Play();
  private final Tape tape = new Tape();
  private final Stage[] racked = new Stage[RACKS * MAX_STAGES];
  private final int[] rackSizes = {MISSING, MISSING};
  private final Sheet[] sheets = {new Sheet(), new Sheet(), new Sheet(), new Sheet()};
  private final int[] handSorts = new int[HANDS];
  private final Stage[] handStages = new Stage[HANDS];
  private final Amount[] handAmounts = new Amount[HANDS];
  private final long[] handViews = new long[HANDS];

  public VeiledTable() {
  }

  // ---- the pack, stages

  public int pack(int m) {
    if (m < 1 || m > MAX_CARDS) return BAD;
    final int was = game.table.cards;
    game.open(m);
    return was;
  }

  public int worth(int card, int v) {
    if (card < 0 || card >= game.table.cards || v < -MAX_WORTH || v > MAX_WORTH) return BAD;
    final int was = game.table.worths[card];
    game.table.worths[card] = v;
    return was;
  }

  public int stage(int kind, int p, int k) {
    if (!isStageToBe(kind, p, k)) return BAD;
    if (!game.table.hasRoom()) return FULL;
    if (!game.table.hasCardFor(KINDS[kind])) return STATE;
    game.table.put(new Stage(KINDS[kind], p, k));
    return game.table.staged - 1;
  }

  public int stageOf(int i, int what) {
    final Stage stage = game.table.at(i);
    if (stage == null) return BAD;
    switch (what) {
      case 0: return stage.kind.number;
      case 1: return stage.player;
      case 2: return stage.k;
      case 3: return game.table.seers[game.table.staged][i];
      default: return BAD;
    }
  }

  public int seen(int i, int j) {
    if (!isAhead(i, j)) return BAD;
    return game.table.seers[j][i];
  }

  public int drop() {
    if (game.table.staged == 0) return STATE;
    game.table.staged--;
    return game.table.staged;
  }

  // ---- ways, views

  public int ways(int j) {
    if (!isPoint(j)) return BAD;
    return game.table.behind[j];
  }

  public int happened(int way, int i) {
    if (!isWay(way) || !isAhead(i, game.table.staged)) return BAD;
    game.table.go(way, game.table.staged);
    return game.table.what[i];
  }

  public long chance(int way, int part) {
    if (!isWay(way) || !isPart(part)) return NO + BAD;
    return part == 0 ? 1 : game.table.chances(game.table.staged);
  }

  public int view(int p, int way, int j) {
    if (!isPlayer(p) || !isWay(way) || !isPoint(j)) return BAD;
    game.table.go(way, game.table.staged);
    return game.table.sight(p, j);
  }

  public int worlds(int p, int j, int view) {
    if (!isPlayer(p) || !isPoint(j)) return BAD;
    return game.table.alike(p, j, view);
  }

  public int world(int p, int j, int view, int n) {
    if (!isPlayer(p) || !isPoint(j)) return BAD;
    final int way = game.table.alikeAt(p, j, view, n);
    return way < 0 ? PLACE : way;
  }

  public long odds(int p, int j, int view, int i, int e, int part) {
    if (!isPlayer(p) || !isAhead(i, j) || !isPart(part)) return NO + BAD;
    play.follow(game, j, NONE);
    final int all = play.alike(game.table, p, j, view);
    if (all == 0) return NO + NONE;
    return share(play.alikeWith(game.table, p, j, view, i, e), all, part);
  }

  // ---- sets, plans

  public int sets(int p) {
    if (!isPlayer(p)) return BAD;
    held.gather(game.table, p);
    return held.many;
  }

  public int setOf(int p, int n, int what) {
    if (!isPlayer(p) || what < 0 || what > 3) return BAD;
    held.gather(game.table, p);
    if (n < 0 || n >= held.many) return PLACE;
    switch (what) {
      case 0: return held.points[n];
      case 1: return held.sights[n];
      case 2: return held.sizes[n];
      default: return game.choice(p, held.points[n], held.sights[n]);
    }
  }

  public int recalls(int p) {
    if (!isPlayer(p)) return BAD;
    return held.areRecalled(game.table, p) ? 1 : 0;
  }

  public int plan(int p, int j, int view, int choice) {
    if (!isPlayer(p) || !game.table.picks(p, j) || choice < 0 || choice >= game.table.fans[j]) return BAD;
    if (game.table.alike(p, j, view) == 0) return NONE;
    final int was = game.choice(p, j, view);
    return game.plans.tell(p, j, view, choice) ? was : FULL;
  }

  public int lot(int seed) {
    int told = 0;
    int z = seed;
    for (int p = 0; p < PLAYERS; p++) {
      held.gather(game.table, p);
      for (int n = 0; n < held.many; n++) {
        z = z * 1103515245 + 12345;
        final int k = Math.max(1, game.table.fans[held.points[n]]);
        if (!game.plans.tell(p, held.points[n], held.sights[n], (z >>> 8) % k)) return FULL;
        told++;
      }
    }
    return told;
  }

  public int unplan() {
    final int were = game.plans.many;
    game.plans.many = 0;
    return were;
  }

  // ---- rules, pay

  public int rule(int test, int x, int y, int a, int b, int amount, int v) {
    if (test < 0 || test > Test.OTHER || amount < 0 || amount > Amount.TWICE) return BAD;
    if (x < 0 || x >= MAX_RULES || y < 0 || y >= MAX_RULES) return BAD;
    if (!isPlayer(a) || !isPlayer(b) || a == b || v < -MAX_V || v > MAX_V) return BAD;
    if (game.ruled >= MAX_RULES) return FULL;
    game.tests[game.ruled] = new Test(test, x, y, game.testAt(x));
    game.amounts[game.ruled] = new Amount(amount, x, y, v, game.amountAt(x));
    game.payers[game.ruled] = a;
    game.payees[game.ruled] = b;
    game.ruled++;
    return game.ruled - 1;
  }

  public int ruleOf(int n, int way) {
    if (n < 0 || n >= game.ruled || !isWay(way)) return BAD;
    game.table.go(way, game.table.staged);
    return game.due(n);
  }

  public int unrule() {
    if (game.ruled == 0) return STATE;
    game.ruled--;
    return game.ruled;
  }

  public long pay(int p, int way) {
    if (!isPlayer(p) || !isWay(way)) return NO + BAD;
    game.table.go(way, game.table.staged);
    final long won = game.won(p);
    return isProduct(won, game.stake) ? won * game.stake : NO + MUCH;
  }

  public long mean(int p, int part) {
    if (!isPlayer(p) || !isPart(part)) return NO + BAD;
    final long together = play.together(game, p);
    final long chances = game.table.chances(game.table.staged);
    final long above = share(together, chances, 0);
    final long below = share(together, chances, 1);
    final long cut = divisor(game.stake, below);
    if (!isProduct(above, game.stake / cut)) return NO + MUCH;
    return part == 0 ? above * (game.stake / cut) : below / cut;
  }

  public long reply(int p, int part) {
    if (!isPlayer(p) || !isPart(part)) return NO + BAD;
    if (isMuchFor(p)) return NO + MUCH;
    return share(play.best(game, held, p), game.table.chances(game.table.staged), part);
  }

  public int better(int p) {
    if (!isPlayer(p)) return BAD;
    if (isMuchFor(p)) return MUCH;
    if (game.plans.many + untold(p) > MAX_PLANS) return FULL;
    play.best(game, held, p);
    int others = 0;
    for (int n = 0; n < held.many; n++) {
      final int first = play.first(n);
      if (game.choice(p, held.points[n], held.sights[n]) != first) others++;
      game.plans.tell(p, held.points[n], held.sights[n], first);
    }
    return others;
  }

  public int settled() {
    for (int p = 0; p < PLAYERS; p++) {
      if (isMuchFor(p)) return MUCH;
    }
    for (int p = 0; p < PLAYERS; p++) {
      held.gather(game.table, p);
      if (play.best(game, held, p) != play.together(game, p)) return 0;
    }
    return 1;
  }

  public int raise(long by) {
    if (by < 1 || by > MAX_RAISE) return BAD;
    if (!isProduct(game.stake, by)) return MUCH;
    game.stake *= by;
    return 1;
  }

  // ---- texts, racks

  public int feed(int n, int bytes) {
    if (n < 1 || n > 4) return BAD;
    if (tape.many + n > MAX_TAPE) return FULL;
    tape.add(n, bytes);
    return tape.many;
  }

  public int text() {
    final int before = game.table.staged;
    final int fault = tape.readInto(game.table);
    if (fault == NONE) return game.table.staged - before;
    game.table.staged = before;
    return FAULTS - fault;
  }

  public int rack(int r, int n) {
    if (!isRack(r) || n > MAX_STAGES) return BAD;
    if (n < 0 && n != UNRACK) return SIZE;
    rackSizes[r] = n == UNRACK ? MISSING : n;
    for (int i = 0; i < MAX_STAGES; i++) racked[r * MAX_STAGES + i] = null;
    return 1;
  }

  public int lay(int r, int i, int stage) {
    final Stage laid = game.table.at(stage);
    if (!isRack(r) || laid == null) return BAD;
    if (rackSizes[r] == MISSING) return NOTHING;
    if (i < 0 || i >= rackSizes[r]) return PLACE;
    racked[r * MAX_STAGES + i] = laid;
    return 1;
  }

  public int build(int r) {
    if (!isRack(r)) return BAD;
    if (rackSizes[r] == MISSING) return NOTHING;
    game.table.staged = 0;
    for (int i = 0; i < rackSizes[r]; i++) {
      final Stage next = racked[r * MAX_STAGES + i];
      if (next == null || !game.table.hasCardFor(next.kind)) break;
      game.table.put(next);
    }
    return game.table.staged;
  }

  // ---- sheets, hands, an image

  public int maybe(int s, int p, int j, int view, int i) {
    if (!isSheet(s) || !isPlayer(p) || !isAhead(i, j)) return BAD;
    final Sheet row = sheets[s];
    row.open(YES_OR_NO, MAX_CARDS);
    for (int way = 0; way < game.table.behind[j]; way++) {
      game.table.go(way, j);
      if (game.table.sight(p, j) == view) row.put(game.table.what[i], 1);
    }
    return row.sum();
  }

  public int sheet(int s, int sort, int n) {
    if (!isSheet(s) || sort < MISSING || sort > INTS) return BAD;
    if (sort != MISSING && n > MAX_CELLS) return BAD;
    if (sort != MISSING && n < 0) return SIZE;
    sheets[s].open(sort, sort == MISSING ? 0 : n);
    return 1;
  }

  public int cell(int s, int i, int v) {
    final int refused = cellRefused(s, i);
    if (refused != 0) return refused;
    sheets[s].put(i, v);
    return 1;
  }

  public int read(int s, int i) {
    final int refused = cellRefused(s, i);
    if (refused != 0) return refused;
    return sheets[s].cells[i];
  }

  public int loadPlans(int s, int p) {
    if (!isSheet(s) || !isPlayer(p)) return BAD;
    if (sheets[s].sort == MISSING) return NOTHING;
    held.gather(game.table, p);
    int n = 0;
    while (n < sheets[s].size && n < held.many) {
      final int choice = sheets[s].cells[n];
      if (choice < 0 || choice >= game.table.fans[held.points[n]]) break;
      if (!game.plans.tell(p, held.points[n], held.sights[n], choice)) break;
      n++;
    }
    return n;
  }

  public int hold(int hand, int sort, long v) {
    if (!isHand(hand) || sort < HOLDS_NOTHING || sort > HOLDS_VIEW) return BAD;
    if (sort == HOLDS_STAGE && (v < 0 || v >= game.table.staged)) return BAD;
    if (sort == HOLDS_AMOUNT && (v < 0 || v >= game.ruled)) return BAD;
    final int was = handSorts[hand];
    handSorts[hand] = sort;
    handStages[hand] = sort == HOLDS_STAGE ? game.table.at((int) v) : null;
    handAmounts[hand] = sort == HOLDS_AMOUNT ? game.amountAt((int) v) : null;
    handViews[hand] = sort == HOLDS_VIEW ? v : 0;
    return was;
  }

  public int asStage(int hand, int kind) {
    if (!isHand(hand) || kind < 0 || kind > 2) return BAD;
    if (handSorts[hand] == HOLDS_NOTHING) return NOTHING;
    final Stage stage = handStages[hand];
    if (stage == null) return KIND;
    if (kind == 0 && !stage.kind.isChoice()) return KIND;
    if (kind == 1 && !stage.kind.isChance()) return KIND;
    return stage.kind.number;
  }

  public int asAmount(int hand, int way) {
    if (!isHand(hand) || !isWay(way)) return BAD;
    if (handSorts[hand] == HOLDS_NOTHING) return NOTHING;
    final Amount amount = handAmounts[hand];
    if (amount == null) return KIND;
    game.table.go(way, game.table.staged);
    return amount.comesTo(game.table);
  }

  public int asView(int hand, int p, int j) {
    if (!isHand(hand) || !isPlayer(p) || !isPoint(j)) return BAD;
    if (handSorts[hand] == HOLDS_NOTHING) return NOTHING;
    if (handSorts[hand] != HOLDS_VIEW) return KIND;
    final int view = (int) handViews[hand];
    return view == handViews[hand] ? game.table.alike(p, j, view) : 0;
  }

  public int image() {
    kept.become(game);
    isKept = true;
    return game.table.staged;
  }

  public int back() {
    if (!isKept) return STATE;
    game.become(kept);
    return game.table.staged;
  }

  public long count(int what) {
    switch (what) {
      case 0: return game.table.cards;
      case 1: return game.table.staged;
      case 2: return game.plans.many;
      case 3: return game.ruled;
      case 4: return game.stake;
      default: return NO + BAD;
    }
  }

  // ---- what the calls above ask of their arguments

  private static boolean isPlayer(int p) {
    return p >= 0 && p < PLAYERS;
  }

  private static boolean isPart(int part) {
    return part == 0 || part == 1;
  }

  private static boolean isRack(int r) {
    return r >= 0 && r < RACKS;
  }

  private static boolean isSheet(int s) {
    return s >= 0 && s < SHEETS;
  }

  private static boolean isHand(int hand) {
    return hand >= 0 && hand < HANDS;
  }

  private static boolean isStageToBe(int kind, int p, int k) {
    if (kind < 0 || kind >= KINDS.length) return false;
    final boolean isP = KINDS[kind].hasPlayer ? isPlayer(p) : p == 0;
    final boolean isK = KINDS[kind].hasNumber ? k == 2 || k == 3 : k == 0;
    return isP && isK;
  }

  /** Whether there are j stages to be behind. */
  private boolean isPoint(int j) {
    return j >= 0 && j <= game.table.staged;
  }

  private boolean isAhead(int i, int j) {
    return isPoint(j) && i >= 0 && i < j;
  }

  private boolean isWay(int way) {
    return way >= 0 && way < game.table.behind[game.table.staged];
  }

  private int cellRefused(int s, int i) {
    if (!isSheet(s)) return BAD;
    if (sheets[s].sort == MISSING) return NOTHING;
    return i < 0 || i >= sheets[s].size ? PLACE : 0;
  }

  /** Gathers the sets of a player as well: who asks it looks at them next. */
  private boolean isMuchFor(int p) {
    held.gather(game.table, p);
    int tries = 1;
    for (int n = 0; n < held.many; n++) {
      tries *= game.table.fans[held.points[n]];
      if (tries > MAX_TRIES) return true;
    }
    return false;
  }

  /** For how many of the sets gathered no plan is told. */
  private int untold(int p) {
    int found = 0;
    for (int n = 0; n < held.many; n++) {
      if (game.plans.find(p, held.points[n], held.sights[n]) < 0) found++;
    }
    return found;
  }

  // ---- numbers

  /** A part of the fraction in lowest terms. */
  private static long share(long above, long below, int part) {
    final long cut = divisor(Math.abs(above), below);
    return part == 0 ? above / cut : below / cut;
  }

  private static long divisor(long a, long b) {
    long more = a;
    long less = b;
    // Euclid's remainders are halved every two steps: 64 bits end it long before.
    for (int step = 0; step < 200 && less != 0; step++) {
      final long rest = more % less;
      more = less;
      less = rest;
    }
    return Math.max(1, more);
  }

  /** Whether a times by, by above 0, is a number of 64 bits. */
  private static boolean isProduct(long a, long by) {
    return by > 0 && a <= MOST / by && a >= LEAST / by;
  }

  // ---- the parts

  private enum Kind {
    DEAL(0, "deal", true, false),
    TURN(1, "turn", false, false),
    ASK(2, "ask", true, true),
    VEIL(3, "veil", true, true),
    SHOW(4, "show", true, false),
    FORGET(5, "forget", true, false),
    TOSS(6, "toss", false, true),
    PEEK(7, "peek", true, true);

    final int number;
    final String word;
    final boolean hasPlayer;
    final boolean hasNumber;

    Kind(int number, String word, boolean hasPlayer, boolean hasNumber) {
      this.number = number;
      this.word = word;
      this.hasPlayer = hasPlayer;
      this.hasNumber = hasNumber;
    }

    boolean isCard() {
      return this == DEAL || this == TURN;
    }

    boolean isChoice() {
      return this == ASK || this == VEIL;
    }

    boolean isChance() {
      return isCard() || this == TOSS || this == PEEK;
    }

    boolean isSecret() {
      return this == DEAL || this == VEIL || this == PEEK;
    }
  }

  /** Never changes: so racks, hands and the image keep a stage as it was by keeping it. */
  private static final class Stage {
    final Kind kind;
    final int player;
    final int k;

    Stage(Kind kind, int player, int k) {
      this.kind = kind;
      this.player = player;
      this.k = k;
    }
  }

  /**
   * The pack, the stages, and how they can go. A stage's rows lean on those of the stages ahead of it alone:
   * so one that is put behind makes its own, and one that is dropped leaves the others right.
   */
  private static final class Table {
    int cards = FIRST_CARDS;
    final int[] worths = new int[MAX_CARDS];
    final Stage[] stages = new Stage[MAX_STAGES];
    int staged = 0;
    final int[] fans = new int[MAX_STAGES];
    final int[] behind = new int[MAX_STAGES + 1];
    final int[][] seers = new int[MAX_STAGES + 1][MAX_STAGES];
    private final int[][] befell = new int[MAX_STAGES][MAX_WAYS];
    /** What happened in the way that was gone last. */
    final int[] what = new int[MAX_STAGES];

    Table() {
      behind[0] = 1;
    }

    void open(int m) {
      cards = m;
      staged = 0;
      for (int card = 0; card < MAX_CARDS; card++) worths[card] = 0;
    }

    void become(Table other) {
      open(other.cards);
      for (int card = 0; card < MAX_CARDS; card++) worths[card] = other.worths[card];
      for (int i = 0; i < other.staged; i++) put(other.stages[i]);
    }

    Stage at(int i) {
      return i >= 0 && i < staged ? stages[i] : null;
    }

    boolean hasRoom() {
      return staged < MAX_STAGES;
    }

    boolean hasCardFor(Kind kind) {
      return !kind.isCard() || cardsLeft() > 0;
    }

    private int cardsLeft() {
      int left = cards;
      for (int i = 0; i < staged; i++) {
        if (isCardAt(i)) left--;
      }
      return left;
    }

    private boolean isCardAt(int i) {
      final Stage stage = at(i);
      return stage != null && stage.kind.isCard();
    }

    private boolean isChanceAt(int i) {
      final Stage stage = at(i);
      return stage != null && stage.kind.isChance();
    }

    /** Whether stage j is there and a player chooses in it. */
    boolean picks(int p, int j) {
      final Stage stage = at(j);
      return stage != null && stage.kind.isChoice() && stage.player == p;
    }

    void put(Stage stage) {
      if (stage == null || !hasRoom() || !hasCardFor(stage.kind)) return;
      final int i = staged;
      stages[i] = stage;
      fans[i] = stage.kind.isCard() ? cardsLeft() : Math.max(1, stage.k);
      behind[i + 1] = behind[i] * fans[i];
      branch(stage.kind, i);
      letSee(stage, i);
      staged++;
    }

    private void branch(Kind kind, int i) {
      final int range = kind.isCard() ? cards : fans[i];
      int next = 0;
      for (int way = 0; way < behind[i]; way++) {
        final int gone = kind.isCard() ? cardsGone(way, i) : 0;
        for (int e = 0; e < range; e++) {
          if ((gone >> e & 1) == 0 && next < MAX_WAYS) befell[i][next++] = e;
        }
      }
    }

    /** The cards, as bits, that came out in the first j stages of a way. */
    private int cardsGone(int way, int j) {
      go(way, j);
      int gone = 0;
      for (int i = 0; i < j; i++) {
        if (isCardAt(i)) gone |= 1 << what[i];
      }
      return gone;
    }

    private void letSee(Stage stage, int i) {
      final int own = 1 << stage.player;
      for (int past = 0; past < i; past++) {
        int eyes = seers[i][past];
        if (stage.kind == Kind.SHOW && (eyes & own) != 0) eyes = ALL_PLAYERS;
        if (stage.kind == Kind.FORGET) eyes &= ~own;
        seers[i + 1][past] = eyes;
      }
      seers[i + 1][i] = stage.kind.isSecret() ? own : ALL_PLAYERS;
    }

    /** Goes a way behind j stages: what happened in these is in the row then. */
    void go(int way, int j) {
      int rest = way;
      for (int i = j - 1; i >= 0; i--) {
        what[i] = rest >= 0 && rest < MAX_WAYS ? befell[i][rest] : 0;
        rest /= Math.max(1, fans[i]);
      }
    }

    /** A player's view behind j stages of the way that was gone last. */
    int sight(int p, int j) {
      int view = 1;
      for (int i = 0; i < j; i++) {
        final boolean sees = (seers[j][i] >> p & 1) != 0;
        view = 8 * view + (sees ? what[i] + 1 : 0);
      }
      return view;
    }

    int sightOf(int p, int way, int j) {
      go(way, j);
      return sight(p, j);
    }

    int alike(int p, int j, int view) {
      int found = 0;
      for (int way = 0; way < behind[j]; way++) {
        if (sightOf(p, way, j) == view) found++;
      }
      return found;
    }

    /** Which way is at place n of those alike; NONE, if none is. */
    int alikeAt(int p, int j, int view, int n) {
      int place = 0;
      for (int way = 0; way < behind[j]; way++) {
        if (sightOf(p, way, j) != view) continue;
        if (place == n) return way;
        place++;
      }
      return NONE;
    }

    /** Chance makes as many ways of the first j stages, each as likely as each, whatever the players choose. */
    int chances(int j) {
      int all = 1;
      for (int i = 0; i < j; i++) {
        if (isChanceAt(i)) all *= fans[i];
      }
      return all;
    }
  }

  /** What is told for a player, a stage and a view, whether there is such a set now or not. */
  private static final class Plans {
    private final int[] keys = new int[MAX_PLANS];
    private final int[] choices = new int[MAX_PLANS];
    int many = 0;

    void become(Plans other) {
      many = other.many;
      for (int n = 0; n < MAX_PLANS; n++) {
        keys[n] = other.keys[n];
        choices[n] = other.choices[n];
      }
    }

    /** Views have 19 bits at most, stages 3, players 2. */
    private static int key(int p, int j, int view) {
      return (view << 3 | j) << 2 | p;
    }

    /** What is told, or NONE. */
    int find(int p, int j, int view) {
      final int key = key(p, j, view);
      for (int n = 0; n < many; n++) {
        if (keys[n] == key) return choices[n];
      }
      return NONE;
    }

    /** Whether there was room for it. */
    boolean tell(int p, int j, int view, int choice) {
      final int key = key(p, j, view);
      int n = 0;
      while (n < many && keys[n] != key) n++;
      if (n >= MAX_PLANS) return false;
      if (n == many) many++;
      keys[n] = key;
      choices[n] = choice;
      return true;
    }
  }

  /** The test of a rule. It keeps the test of rule x, which stays as it is as long as this one is there. */
  private static final class Test {
    private static final int ALWAYS = 0;
    private static final int SAME = 1;
    private static final int MORE = 2;
    private static final int EVEN = 3;
    static final int OTHER = 4;

    private final int sort;
    private final int x;
    private final int y;
    private final Test ahead;

    Test(int sort, int x, int y, Test ahead) {
      this.sort = sort;
      this.x = x;
      this.y = y;
      this.ahead = ahead;
    }

    /** Whether it is so of the way that was gone last. */
    boolean isSo(Table table) {
      boolean turned = false;
      Test test = this;
      for (int depth = 0; depth < MAX_RULES && test.sort == OTHER && test.ahead != null; depth++) {
        turned = !turned;
        test = test.ahead;
      }
      return test.isSoByItself(table) != turned;
    }

    private boolean isSoByItself(Table table) {
      if (sort == ALWAYS) return true;
      if (sort == OTHER || x >= table.staged || y >= table.staged) return false;
      final int first = table.what[x];
      final int second = table.what[y];
      if (sort == SAME) return first == second;
      if (sort == MORE) return first > second;
      return sort == EVEN && (first + second) % 2 == 0;
    }
  }

  /** The amount of a rule, whatever its test says. It keeps the amount of rule x, as a test does. */
  private static final class Amount {
    private static final int PLAIN = 0;
    private static final int WORTHS = 1;
    private static final int LESS = 2;
    private static final int MORE = 3;
    static final int TWICE = 4;

    private final int sort;
    private final int x;
    private final int y;
    private final int v;
    private final Amount ahead;

    Amount(int sort, int x, int y, int v, Amount ahead) {
      this.sort = sort;
      this.x = x;
      this.y = y;
      this.v = v;
      this.ahead = ahead;
    }

    /** What it is in the way that was gone last. */
    int comesTo(Table table) {
      int more = 0;
      Amount amount = this;
      for (int depth = 0; depth < MAX_RULES && amount.sort == MORE && amount.ahead != null; depth++) {
        more += amount.v;
        amount = amount.ahead;
      }
      return more + amount.byItself(table);
    }

    private int byItself(Table table) {
      if (sort == PLAIN) return v;
      if (sort == MORE || x >= table.staged) return 0;
      final int first = table.what[x];
      if (sort == WORTHS) return first < table.cards ? v * table.worths[first] : 0;
      if (sort == TWICE) return first == 0 ? 2 * v : v;
      return sort == LESS && y < table.staged ? v * (first - table.what[y]) : 0;
    }
  }

  /** All that an image keeps. */
  private static final class Game {
    final Table table = new Table();
    final Plans plans = new Plans();
    final Test[] tests = new Test[MAX_RULES];
    final Amount[] amounts = new Amount[MAX_RULES];
    final int[] payers = new int[MAX_RULES];
    final int[] payees = new int[MAX_RULES];
    int ruled = 0;
    long stake = 1;

    void open(int m) {
      table.open(m);
      plans.many = 0;
      ruled = 0;
      stake = 1;
    }

    void become(Game other) {
      table.become(other.table);
      plans.become(other.plans);
      for (int n = 0; n < MAX_RULES; n++) {
        tests[n] = other.tests[n];
        amounts[n] = other.amounts[n];
        payers[n] = other.payers[n];
        payees[n] = other.payees[n];
      }
      ruled = other.ruled;
      stake = other.stake;
    }

    Test testAt(int n) {
      return n >= 0 && n < ruled ? tests[n] : null;
    }

    Amount amountAt(int n) {
      return n >= 0 && n < ruled ? amounts[n] : null;
    }

    /** What the plans choose: a plan may be older than the stage, and tell too great a number for it. */
    int choice(int p, int j, int view) {
      final Stage stage = table.at(j);
      final int told = plans.find(p, j, view);
      return stage != null && told >= 0 && told < stage.k ? told : 0;
    }

    /** What payer owes payee by a rule in the way that was gone last. */
    int due(int n) {
      final Test test = testAt(n);
      final Amount amount = amountAt(n);
      return test != null && amount != null && test.isSo(table) ? amount.comesTo(table) : 0;
    }

    /** A player's pay, without the stake, in the way that was gone last. */
    int won(int p) {
      int sum = 0;
      for (int n = 0; n < ruled; n++) {
        if (payers[n] == p) sum -= due(n);
        if (payees[n] == p) sum += due(n);
      }
      return sum;
    }
  }

  /** The sets of the player for whom they were gathered last, in order. */
  private static final class Sets {
    final int[] points = new int[MAX_SETS];
    final int[] sights = new int[MAX_SETS];
    final int[] sizes = new int[MAX_SETS];
    int many = 0;
    private final int[] row = new int[MAX_WAYS];
    private final int[] pasts = new int[MAX_SETS];

    void gather(Table table, int p) {
      many = 0;
      for (int j = 0; j < table.staged; j++) {
        if (table.picks(p, j)) gatherAt(table, p, j);
      }
    }

    private void gatherAt(Table table, int p, int j) {
      final int ways = table.behind[j];
      for (int way = 0; way < ways; way++) row[way] = table.sightOf(p, way, j);
      sort(ways);
      for (int n = 0; n < ways; n++) {
        if (n > 0 && row[n] == row[n - 1]) {
          sizes[many - 1]++;
        } else if (many < MAX_SETS) {
          points[many] = j;
          sights[many] = row[n];
          sizes[many] = 1;
          many++;
        }
      }
    }

    private void sort(int size) {
      for (int gap = size / 2; gap > 0; gap /= 2) {
        for (int n = gap; n < size; n++) {
          final int moved = row[n];
          int to = n;
          while (to >= gap && row[to - gap] > moved) {
            row[to] = row[to - gap];
            to -= gap;
          }
          row[to] = moved;
        }
      }
    }

    /** Which of the sets gathered it is, or NONE. */
    int find(int j, int view) {
      int low = 0;
      int high = many;
      while (low < high) {
        final int mid = (low + high) / 2;
        if (points[mid] < j || points[mid] == j && sights[mid] < view) low = mid + 1;
        else high = mid;
      }
      return low < many && points[low] == j && sights[low] == view ? low : NONE;
    }

    boolean areRecalled(Table table, int p) {
      gather(table, p);
      for (int j = 0; j < table.staged; j++) {
        for (int i = 0; i < j; i++) {
          if (table.picks(p, i) && table.picks(p, j) && !isRecalled(table, p, i, j)) return false;
        }
      }
      return true;
    }

    /** Whether who chooses in stage j knows always what was known, and chosen, in stage i. */
    private boolean isRecalled(Table table, int p, int i, int j) {
      for (int n = 0; n < many; n++) pasts[n] = NONE;
      for (int way = 0; way < table.behind[j]; way++) {
        final int set = find(j, table.sightOf(p, way, j));
        if (set < 0) continue;
        final int past = table.sight(p, i) * 4 + table.what[i];
        if (pasts[set] == NONE) pasts[set] = past;
        if (pasts[set] != past) return false;
      }
      return true;
    }
  }

  /** What comes of plans: the ways that are played, and the best that a player can do. */
  private static final class Play {
    private static final int MAX_TRIED_SETS = 9;
    // A number that tells a set and a choice: 2 bits of choice, 4 of set.
    private static final int MARK_BITS = 6;
    private static final int MARK = 63;
    private static final int CHOICE_BITS = 2;
    private static final int CHOICE = 3;

    private int[] followed = new int[MAX_WAYS];
    private int[] next = new int[MAX_WAYS];
    private int many = 0;
    // Ways in which the player who seeks a reply makes the same choices in the same sets count as one.
    private final long[] courses = new long[MAX_WAYS];
    private final int[] wins = new int[MAX_WAYS];
    private int coursed = 0;
    private int marks = 0;
    private final int[] tried = new int[MARK];
    private final int[] firsts = new int[MAX_TRIED_SETS];

    /** Gathers the ways behind j stages in which all choices but those of the free player are by plans. */
    void follow(Game game, int j, int free) {
      followed[0] = 0;
      many = 1;
      for (int i = 0; i < j; i++) step(game, i, free);
    }

    private void step(Game game, int i, int free) {
      final Stage stage = game.table.at(i);
      if (stage == null) return;
      final int fan = game.table.fans[i];
      final boolean isPlanned = stage.kind.isChoice() && stage.player != free;
      int size = 0;
      for (int n = 0; n < many; n++) {
        final int only = isPlanned ? game.choice(stage.player, i, game.table.sightOf(stage.player, followed[n], i)) : NONE;
        for (int e = 0; e < fan; e++) {
          if ((only == NONE || only == e) && size < MAX_WAYS) next[size++] = followed[n] * fan + e;
        }
      }
      final int[] old = followed;
      followed = next;
      next = old;
      many = size;
    }

    /** How many of the ways followed to j have such a view. */
    int alike(Table table, int p, int j, int view) {
      int found = 0;
      for (int n = 0; n < many; n++) {
        if (table.sightOf(p, followed[n], j) == view) found++;
      }
      return found;
    }

    int alikeWith(Table table, int p, int j, int view, int i, int e) {
      int found = 0;
      for (int n = 0; n < many; n++) {
        if (table.sightOf(p, followed[n], j) == view && table.what[i] == e) found++;
      }
      return found;
    }

    /** A player's pay in all played ways: as these are all alike likely, the mean is that by their number. */
    int together(Game game, int p) {
      follow(game, game.table.staged, NONE);
      int sum = 0;
      for (int n = 0; n < many; n++) {
        game.table.go(followed[n], game.table.staged);
        sum += game.won(p);
      }
      return sum;
    }

    /** The greatest sum that any plans of a player make together() be; sets: those of the player, not too much. */
    int best(Game game, Sets sets, int p) {
      follow(game, game.table.staged, p);
      gatherCourses(game, sets, p);
      for (int n = 0; n < MARK; n++) tried[n] = 0;
      int best = 0;
      for (int n = 0; n < MAX_TRIES; n++) {
        final int sum = sumTried();
        if (n == 0 || sum > best) {
          best = sum;
          for (int set = 0; set < MAX_TRIED_SETS; set++) firsts[set] = tried[set];
        }
        if (!tryNext(game.table, sets)) break;
      }
      return best;
    }

    /** What the first reply sought last chooses in a set. */
    int first(int set) {
      return set >= 0 && set < MAX_TRIED_SETS ? firsts[set] : 0;
    }

    private void gatherCourses(Game game, Sets sets, int p) {
      coursed = 0;
      marks = 0;
      for (int j = 0; j < game.table.staged; j++) {
        if (game.table.picks(p, j)) marks++;
      }
      for (int n = 0; n < many; n++) {
        game.table.go(followed[n], game.table.staged);
        final long course = courseOf(game.table, sets, p);
        int at = 0;
        while (at < coursed && courses[at] != course) at++;
        if (at == coursed) {
          courses[at] = course;
          wins[at] = 0;
          coursed++;
        }
        wins[at] += game.won(p);
      }
    }

    /** A mark for each set that a player comes to in the way that was gone last. */
    private long courseOf(Table table, Sets sets, int p) {
      long course = 0;
      for (int j = 0; j < table.staged; j++) {
        if (!table.picks(p, j)) continue;
        final int set = sets.find(j, table.sight(p, j));
        course = course << MARK_BITS | set << CHOICE_BITS | table.what[j];
      }
      return course;
    }

    private int sumTried() {
      int sum = 0;
      for (int n = 0; n < coursed; n++) {
        if (isTried(courses[n])) sum += wins[n];
      }
      return sum;
    }

    private boolean isTried(long course) {
      long rest = course;
      for (int n = 0; n < marks; n++) {
        final int mark = (int) (rest & MARK);
        if (tried[mark >> CHOICE_BITS] != (mark & CHOICE)) return false;
        rest >>= MARK_BITS;
      }
      return true;
    }

    /** The choices that come next in order, if there are any: those of the last set change first. */
    private boolean tryNext(Table table, Sets sets) {
      for (int set = Math.min(sets.many, MAX_TRIED_SETS) - 1; set >= 0; set--) {
        tried[set]++;
        if (tried[set] < table.fans[sets.points[set]]) return true;
        tried[set] = 0;
      }
      return false;
    }
  }

  /** The tape, and what reads it, a token at a time. */
  private static final class Tape {
    private static final int BLANK = 32;
    private static final int SEMICOLON = 59;
    private static final int END = 0;
    private static final int WORD = 1;
    private static final int NUMBER = 2;
    private static final int SIGN = 3;
    private static final int STRANGE = 4;

    private final int[] bytes = new int[MAX_TAPE];
    int many = 0;
    // The token: its sort, where it begins, where the next may, and what number it is.
    private int sort = END;
    private int from = 0;
    private int to = 0;
    private int value = 0;

    void add(int n, int number) {
      for (int i = 0; i < n && many < MAX_TAPE; i++) {
        bytes[many] = number >>> 24 - 8 * i & 255;
        many++;
      }
    }

    /** Empties the tape and puts its stages, those ahead of a fault too: the fault, or NONE. */
    int readInto(Table table) {
      to = 0;
      boolean isRight = true;
      // Each statement takes a byte at least: the sort of its last token ends the loop before.
      for (int n = 0; n <= MAX_TAPE && isRight; n++) {
        advance();
        isRight = readStatement(table);
        if (sort != SIGN) break;
      }
      final int fault = isRight && sort == END ? NONE : from;
      many = 0;
      return fault;
    }

    /** Ends at the token behind it, or at the one that can't stand there. */
    private boolean readStatement(Table table) {
      final Kind kind = kindTold();
      if (kind == null || !table.hasRoom() || !table.hasCardFor(kind)) return false;
      advance();
      int p = 0;
      int k = 0;
      if (kind.hasPlayer) {
        if (!isNumber(0, PLAYERS - 1)) return false;
        p = value;
        advance();
      }
      if (kind.hasNumber) {
        if (!isNumber(2, 3)) return false;
        k = value;
        advance();
      }
      table.put(new Stage(kind, p, k));
      return true;
    }

    private boolean isNumber(int least, int most) {
      return sort == NUMBER && value >= least && value <= most;
    }

    private Kind kindTold() {
      if (sort != WORD) return null;
      for (int n = 0; n < KINDS.length; n++) {
        if (isWord(KINDS[n].word)) return KINDS[n];
      }
      return null;
    }

    private boolean isWord(String word) {
      if (word.length() != to - from) return false;
      for (int i = 0; i < word.length(); i++) {
        if (word.charAt(i) != bytes[from + i]) return false;
      }
      return true;
    }

    private void advance() {
      from = to;
      while (from < many && bytes[from] == BLANK) from++;
      to = from;
      value = 0;
      sort = sortAt(from);
      while (to < many && sortAt(to) == sort) {
        // Above 9 a value doesn't matter: it stays as it is, and never gets too great.
        if (value <= 9) value = 10 * value + bytes[to] - '0';
        to++;
        if (sort == SIGN || sort == STRANGE) break;
      }
    }

    /** The sort of a token that has such a byte. */
    private int sortAt(int i) {
      if (i < 0 || i >= many) return END;
      if (bytes[i] >= 'a' && bytes[i] <= 'z') return WORD;
      if (bytes[i] >= '0' && bytes[i] <= '9') return NUMBER;
      return bytes[i] == SEMICOLON ? SIGN : STRANGE;
    }
  }

  private static final class Sheet {
    int sort = MISSING;
    int size = 0;
    final int[] cells = new int[MAX_CELLS];

    void open(int newSort, int n) {
      sort = newSort;
      size = n;
      for (int i = 0; i < MAX_CELLS; i++) cells[i] = 0;
    }

    void put(int i, int v) {
      if (i < 0 || i >= size) return;
      cells[i] = sort == YES_OR_NO && v != 0 ? 1 : v;
    }

    int sum() {
      int all = 0;
      for (int i = 0; i < size; i++) all += cells[i];
      return all;
    }
  }
}
