import java.util.Random;

/**
 * Runs of 512 calls, drawn by fixed seeds, on a VeiledTable and on the Model: each answer must be the same. Each run
 * leans to some calls and to some kinds of stages, so that all come together in some run.
 */
public final class ModelTest {
  private static final int RUNS = 1200;
  private static final int CALLS = 512;
  // What a call may cost the model, in ways that it goes.
  private static final long MOST_LABOUR = 15000;
  private static final String[] CALLS_OF_THE_FACE = {"pack", "worth", "stage", "stageOf", "seen", "drop", "ways", "happened",
    "chance", "view", "worlds", "world", "odds", "sets", "setOf", "recalls", "plan", "lot", "unplan", "rule", "ruleOf",
    "unrule", "pay", "mean", "reply", "better", "settled", "raise", "feed", "text", "rack", "lay", "build", "maybe", "sheet",
    "cell", "read", "loadPlans", "hold", "asStage", "asAmount", "asView", "image", "back", "count"};
  private static final String[] PIECES = {"deal ", "turn", "ask ", "veil ", "show ", "forget ", "toss ", "peek ", "0", "1",
    "2", "3", "02", "10", "9", ";", ";", ";", " ", "  ", "x", "A", "deals ", "\u00e9", "{", "`", "/", ":", "!"};

  private final Random random;
  private final VeiledTable table = new VeiledTable();
  private final Model model = new Model();
  private final int[] leanings = new int[CALLS_OF_THE_FACE.length];
  private final int wild;
  private final int[] kinds = new int[8];
  private final boolean isLoved;
  private final int loved;
  private String told = "";
  private String waiting = "";
  private boolean isFed = false;

  private ModelTest(long seed) {
    random = new Random(seed);
    wild = random.nextInt(4) == 0 ? 6 : 40;
    isLoved = random.nextBoolean();
    loved = random.nextInt(3);
    for (int n = 0; n < kinds.length; n++) kinds[n] = random.nextInt(n == 2 || n == 3 || n == 5 ? 6 : 4);
    for (int n = 0; n < leanings.length; n++) leanings[n] = 4 + random.nextInt(12);
    lean("pack", random.nextInt(2));
    lean("build", random.nextInt(3));
    for (String call : new String[] {"drop", "back", "image", "unplan", "unrule", "raise"}) lean(call, random.nextInt(4));
    for (String call : new String[] {"sheet", "rack"}) lean(call, random.nextInt(3));
    boolean isOfTexts = random.nextInt(3) == 0;
    lean("feed", random.nextInt(4) == 0 ? 20 : 0);
    lean("text", isOfTexts ? 200 : 1);
    if (isOfTexts) lean("drop", 15);
  }

  /** How a run begins: something on the table, in the racks, on the sheets, in the hands. */
  private String firstCall(int n) {
    if (n == 0) return random.nextInt(3) == 0 ? "count" : "pack";
    if (n < 6) return "worth";
    if (n < 12) return random.nextInt(5) == 0 ? "worth" : "stage";
    if (n < 18) return random.nextInt(4) == 0 ? "pay" : "rule";
    if (n < 24) return "hold";
    if (n < 28) return "rack";
    if (n < 36) return "lay";
    if (n < 42) return "sheet";
    return n < 60 ? "cell" : drawnCall();
  }

  private int drawnKind() {
    int all = 0;
    for (int leaning : kinds) all += leaning;
    int at = all == 0 ? 0 : random.nextInt(all);
    for (int kind = 0; kind < kinds.length; kind++) {
      at -= kinds[kind];
      if (at < 0) return kind;
    }
    return 2;
  }

  private void lean(String call, int by) {
    for (int n = 0; n < leanings.length; n++) if (CALLS_OF_THE_FACE[n].equals(call)) leanings[n] = by;
  }

  public static void main(String[] args) {
    int first = args.length == 2 ? Integer.parseInt(args[0]) : 1;
    int last = args.length == 2 ? Integer.parseInt(args[1]) : RUNS;
    int wrong = 0;
    for (int seed = first; seed <= last; seed++) {
      ModelTest run = new ModelTest(seed);
      if (!run.isRight(seed)) wrong++;
    }
    System.out.println(last - first + 1 + " runs beside the model, " + wrong + " wrong");
    if (wrong != 0) System.exit(1);
  }

  private boolean isRight(long seed) {
    StringBuilder calls = new StringBuilder();
    for (int n = 0; n < CALLS; n++) {
      long[] answers = call(firstCall(n));
      calls.append(told).append(" = ").append(answers[0]).append('\n');
      if (answers[0] != answers[1]) {
        System.out.println("run " + seed + ", call " + n + ": " + told + " answered " + answers[0] + ", due is " + answers[1]);
        if (System.getenv("VEILED_CALLS") != null) System.out.println(calls);
        return false;
      }
    }
    return true;
  }

  private String drawnCall() {
    int all = 0;
    for (int leaning : leanings) all += leaning;
    int at = random.nextInt(all);
    for (int n = 0; n < leanings.length; n++) {
      at -= leanings[n];
      if (at < 0) return CALLS_OF_THE_FACE[n];
    }
    return "count";
  }

  /** A number from least to most; now and then another. */
  private int near(int least, int most) {
    if (random.nextInt(wild) == 0) {
      int[] others = {least - 1, most + 1, -1, 1 << 31, -1 >>> 1, random.nextInt(), random.nextInt(20) - 10};
      return others[random.nextInt(others.length)];
    }
    return least + random.nextInt(Math.max(1, most - least + 1));
  }

  private int player() {
    if (isLoved && random.nextInt(3) != 0) return loved;
    return near(0, 2);
  }

  private int stages() {
    return (int) model.count(1);
  }

  private int anyWay() {
    return near(0, model.ways(stages()) - 1);
  }

  private int point() {
    return near(0, stages());
  }

  /** A view that a player has behind j stages, or another. */
  private int viewAt(int p, int j) {
    if (random.nextInt(wild) == 0) return near(0, 600000);
    int view = model.view(p, random.nextInt(model.ways(stages())), j);
    return view < 0 ? near(0, 600) : view;
  }

  private int anyInt() {
    return random.nextInt(5) == 0 ? random.nextInt() : near(-1, 3);
  }

  private boolean isDear(int least, int most) {
    long labour = 0;
    for (int p = least; p <= most && p <= 2; p++) if (p >= 0) labour += model.labour(p);
    return labour > MOST_LABOUR;
  }

  private long[] call(String name) {
    switch (name) {
      case "plan", "lot", "unplan", "sets", "setOf", "recalls", "loadPlans": return callOfPlans(name);
      case "rule", "ruleOf", "unrule", "pay", "mean", "reply", "better", "settled", "raise": return callOfRules(name);
      case "feed", "text", "rack", "lay", "build": return callOfTexts(name);
      case "maybe", "sheet", "cell", "read", "hold", "asStage", "asAmount", "asView", "image", "back", "count":
        return callOfHands(name);
      default: return callOfStages(name);
    }
  }

  private void tell(String name, long... args) {
    StringBuilder all = new StringBuilder(name).append('(');
    for (int n = 0; n < args.length; n++) all.append(n == 0 ? "" : ", ").append(args[n]);
    told = all.append(')').toString();
  }

  private static long[] two(long answer, long due) {
    return new long[] {answer, due};
  }

  private long[] callOfStages(String name) {
    int p = player();
    int j = point();
    int way = anyWay();
    int i = near(0, Math.max(0, j - 1));
    int view = viewAt(p, j);
    int part = near(0, 1);
    switch (name) {
      case "pack": { int m = near(1, 5); tell(name, m); return two(table.pack(m), model.pack(m)); }
      case "worth": {
        int card = near(0, 4);
        int v = near(-9, 9);
        tell(name, card, v);
        return two(table.worth(card, v), model.worth(card, v));
      }
      case "stage": {
        int kind = random.nextInt(wild) == 0 ? near(0, 7) : drawnKind();
        int who = kind == 1 || kind == 6 ? near(0, 0) : p;
        int k = kind == 2 || kind == 3 || kind >= 6 ? near(2, 3) : near(0, 0);
        tell(name, kind, who, k);
        return two(table.stage(kind, who, k), model.stage(kind, who, k));
      }
      case "stageOf": {
        int at = near(0, stages());
        int what = near(0, 3);
        tell(name, at, what);
        return two(table.stageOf(at, what), model.stageOf(at, what));
      }
      case "seen": tell(name, i, j); return two(table.seen(i, j), model.seen(i, j));
      case "drop": tell(name); return two(table.drop(), model.drop());
      case "ways": tell(name, j); return two(table.ways(j), model.ways(j));
      case "happened": tell(name, way, i); return two(table.happened(way, i), model.happened(way, i));
      case "chance": tell(name, way, part); return two(table.chance(way, part), model.chance(way, part));
      case "view": tell(name, p, way, j); return two(table.view(p, way, j), model.view(p, way, j));
      case "worlds": tell(name, p, j, view); return two(table.worlds(p, j, view), model.worlds(p, j, view));
      case "world": {
        int n = near(0, Math.max(0, model.worlds(p, j, view) - 1));
        tell(name, p, j, view, n);
        return two(table.world(p, j, view, n), model.world(p, j, view, n));
      }
      default: {
        int e = near(0, 4);
        tell(name, p, j, view, i, e, part);
        return two(table.odds(p, j, view, i, e, part), model.odds(p, j, view, i, e, part));
      }
    }
  }

  private long[] callOfPlans(String name) {
    int p = player();
    int j = near(0, Math.max(0, stages() - 1));
    switch (name) {
      case "sets": tell(name, p); return two(table.sets(p), model.sets(p));
      case "setOf": {
        int n = near(0, Math.max(0, model.sets(p) - 1));
        int what = near(0, 3);
        tell(name, p, n, what);
        return two(table.setOf(p, n, what), model.setOf(p, n, what));
      }
      case "recalls": tell(name, p); return two(table.recalls(p), model.recalls(p));
      case "plan": {
        int n = near(0, Math.max(0, model.sets(p) - 1));
        boolean isSet = model.setOf(p, n, 0) >= 0 && random.nextInt(wild) != 0;
        int at = isSet ? model.setOf(p, n, 0) : j;
        int view = isSet && random.nextInt(wild) != 0 ? model.setOf(p, n, 1) : viewAt(p, at);
        int choice = near(0, 2);
        tell(name, p, at, view, choice);
        return two(table.plan(p, at, view, choice), model.plan(p, at, view, choice));
      }
      case "lot": { int seed = random.nextInt(); tell(name, seed); return two(table.lot(seed), model.lot(seed)); }
      case "unplan": tell(name); return two(table.unplan(), model.unplan());
      default: { int s = near(0, 3); tell(name, s, p); return two(table.loadPlans(s, p), model.loadPlans(s, p)); }
    }
  }

  private long[] callOfRules(String name) {
    int p = player();
    int part = near(0, 1);
    int way = anyWay();
    switch (name) {
      case "rule": {
        int test = near(0, 4);
        int x = random.nextInt(4) == 0 ? near(0, 7) : near(0, 3);
        int y = near(0, 5);
        int b = random.nextInt(wild) == 0 ? player() : (p + 1 + random.nextInt(2)) % 3;
        int amount = near(0, 4);
        int v = near(-99, 99);
        tell(name, test, x, y, p, b, amount, v);
        return two(table.rule(test, x, y, p, b, amount, v), model.rule(test, x, y, p, b, amount, v));
      }
      case "ruleOf": {
        int n = near(0, (int) model.count(3) - 1);
        tell(name, n, way);
        return two(table.ruleOf(n, way), model.ruleOf(n, way));
      }
      case "unrule": tell(name); return two(table.unrule(), model.unrule());
      case "pay": tell(name, p, way); return two(table.pay(p, way), model.pay(p, way));
      case "raise": {
        long[] some = {0, 1, 2, 3, 6, 7, 10, 1000000000L, 1000000001L, -1, 999999999L, 4611686018427387904L};
        long by = random.nextInt(3) == 0 ? 1 + random.nextInt(1000000000) : some[random.nextInt(some.length)];
        tell(name, by);
        return two(table.raise(by), model.raise(by));
      }
      case "mean": tell(name, p, part); return two(table.mean(p, part), model.mean(p, part));
      case "reply":
        if (isDear(p, p)) return callOfRules("mean");
        tell(name, p, part);
        return two(table.reply(p, part), model.reply(p, part));
      case "better":
        if (isDear(p, p)) return callOfRules("mean");
        tell(name, p);
        return two(table.better(p), model.better(p));
      default:
        if (isDear(0, 2)) return callOfRules("mean");
        tell(name);
        return two(table.settled(), model.settled());
    }
  }

  private long[] callOfTexts(String name) {
    switch (name) {
      case "feed": {
        if (random.nextInt(wild) == 0 || waiting.isEmpty()) waiting = drawnText();
        int most = Math.min(4, waiting.length());
        int n = near(random.nextInt(3) == 0 ? 1 : most, most);
        int bytes = 0;
        for (int i = 0; i < 4; i++) bytes = bytes << 8 | (i < waiting.length() ? waiting.charAt(i) & 255 : random.nextInt(256));
        tell(name, n, bytes);
        int answer = table.feed(n, bytes);
        isFed = true;
        if (answer == VeiledTable.FULL) waiting = "";
        if (answer > 0) waiting = waiting.substring(Math.min(n, waiting.length()));
        return two(answer, model.feed(n, bytes));
      }
      case "text":
        if (waiting.isEmpty() && !isFed) waiting = drawnText();
        if (!waiting.isEmpty() && random.nextInt(wild) != 0) return callOfTexts("feed");
        tell(name);
        waiting = "";
        isFed = false;
        return two(table.text(), model.text());
      case "rack": {
        int r = near(0, 1);
        int n = random.nextInt(8) == 0 ? -9 : near(0, 6);
        tell(name, r, n);
        return two(table.rack(r, n), model.rack(r, n));
      }
      case "lay": {
        int r = near(0, 1);
        int i = near(0, Math.min(5, stages()));
        int at = near(0, Math.max(0, stages() - 1));
        tell(name, r, i, at);
        return two(table.lay(r, i, at), model.lay(r, i, at));
      }
      default: { int r = near(0, 1); tell(name, r); return two(table.build(r), model.build(r)); }
    }
  }

  private String drawnText() {
    StringBuilder text = new StringBuilder();
    int statements = 1 + random.nextInt(random.nextInt(4) == 0 ? 6 : 3);
    for (int n = 0; n < statements; n++) {
      int kind = random.nextInt(8);
      text.append(n == 0 ? "" : random.nextInt(6) == 0 ? " ; " : ";").append(PIECES[kind]);
      if (kind != 1 && kind != 6) text.append(random.nextInt(3)).append(' ');
      if (kind == 2 || kind == 3 || kind >= 6) text.append(2 + random.nextInt(2));
    }
    int torn = Math.max(0, random.nextInt(5) - 2);
    for (int n = 0; n < torn; n++) {
      int at = random.nextInt(text.length() + 1);
      if (random.nextInt(3) != 0) text.insert(at, PIECES[random.nextInt(PIECES.length)]);
      else text.setLength(Math.max(1, at));
    }
    return text.toString();
  }

  private long[] callOfHands(String name) {
    int p = player();
    int j = point();
    int s = near(0, 3);
    int hand = near(0, 3);
    switch (name) {
      case "maybe": {
        int i = near(0, Math.max(0, j - 1));
        int view = viewAt(p, j);
        tell(name, s, p, j, view, i);
        return two(table.maybe(s, p, j, view, i), model.maybe(s, p, j, view, i));
      }
      case "sheet": {
        int sort = near(-1, 1);
        int n = random.nextInt(3) == 0 ? near(0, 40) : near(0, 12);
        tell(name, s, sort, n);
        return two(table.sheet(s, sort, n), model.sheet(s, sort, n));
      }
      case "cell": {
        int i = near(0, 8);
        int v = anyInt();
        tell(name, s, i, v);
        return two(table.cell(s, i, v), model.cell(s, i, v));
      }
      case "read": { int i = near(0, 12); tell(name, s, i); return two(table.read(s, i), model.read(s, i)); }
      case "hold": {
        int sort = near(0, 3);
        long v = sort == 3 ? viewAt(p, j) : near(0, 4);
        if (random.nextInt(wild) == 0) v += 4294967296L;
        tell(name, hand, sort, v);
        return two(table.hold(hand, sort, v), model.hold(hand, sort, v));
      }
      case "asStage": {
        int kind = near(0, 2);
        tell(name, hand, kind);
        return two(table.asStage(hand, kind), model.asStage(hand, kind));
      }
      case "asAmount": { int way = anyWay(); tell(name, hand, way); return two(table.asAmount(hand, way), model.asAmount(hand, way)); }
      case "asView": tell(name, hand, p, j); return two(table.asView(hand, p, j), model.asView(hand, p, j));
      case "image": tell(name); return two(table.image(), model.image());
      case "back": tell(name); return two(table.back(), model.back());
      default: { int what = near(0, 4); tell(name, what); return two(table.count(what), model.count(what)); }
    }
  }
}
