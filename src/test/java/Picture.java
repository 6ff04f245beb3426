/**
 * All that can be found out about a table, as a text: first by what only asks, then by using it up. Two tables that
 * are alike have like pictures. It takes some 330 calls at most.
 */
final class Picture {
  private final VeiledTable x;
  private final StringBuilder all = new StringBuilder();

  private Picture(VeiledTable x) {
    this.x = x;
  }

  static String of(VeiledTable x) {
    Picture picture = new Picture(x);
    picture.game();
    picture.sheets();
    picture.hands();
    picture.racks();
    picture.tape();
    picture.sizes();
    picture.image();
    return picture.all.toString();
  }

  private void note(String what, long... answers) {
    all.append(what);
    for (long answer : answers) all.append(' ').append(answer);
    all.append('\n');
  }

  private void counts() {
    note("counts", x.count(0), x.count(1), x.count(2), x.count(3), x.count(4));
  }

  private void stages() {
    long n = x.count(1);
    for (int i = 0; i < n; i++) note("stage", x.stageOf(i, 0), x.stageOf(i, 1), x.stageOf(i, 2), x.stageOf(i, 3));
  }

  private void game() {
    counts();
    stages();
    int n = (int) x.count(1);
    int ways = x.ways(n);
    note("ways", ways, x.view(0, ways - 1, n), x.view(1, ways - 1, n), x.view(2, ways - 1, n));
    for (int p = 0; p < 3; p++) {
      int sets = Math.min(50, x.sets(p));
      for (int set = 0; set < sets; set++) note("chooses", x.setOf(p, set, 3));
    }
    long rules = x.count(3);
    for (int rule = 0; rule < rules; rule++) note("rule", x.ruleOf(rule, 0), x.ruleOf(rule, ways - 1));
    note("pay", x.pay(0, ways - 1), x.pay(1, ways - 1), x.pay(2, ways - 1), x.mean(0, 0), x.mean(0, 1));
  }

  private void sheets() {
    for (int s = 0; s < 4; s++) note("sheet", x.read(s, 0), x.read(s, 1), x.read(s, 2), x.read(s, 5), x.read(s, 39), x.read(s, 40));
    // Whether it is of yes or no, or of ints, is seen by what becomes of 7.
    for (int s = 0; s < 4; s++) note("sort", x.cell(s, 0, 7), x.read(s, 0));
  }

  private void hands() {
    int last = x.ways((int) x.count(1)) - 1;
    for (int hand = 0; hand < 4; hand++) {
      note("hand", x.asStage(hand, 2), x.asAmount(hand, 0), x.asAmount(hand, last), x.asView(hand, 0, 0), x.asView(hand, 2, 2));
      note("held", x.hold(hand, 0, 0));
    }
  }

  private void racks() {
    for (int r = 0; r < 2; r++) {
      note("rack", x.build(r));
      stages();
    }
  }

  private void tape() {
    note("tape", x.feed(1, ' ' << 24), x.feed(1, '.' << 24), x.text());
    stages();
  }

  private void sizes() {
    worths();
    note("unplan", x.unplan());
    x.pack(1);
    x.stage(Scenes.TOSS, 0, 2);
    for (int r = 0; r < 2; r++) note("places", x.lay(r, 0, 0), x.lay(r, 2, 0), x.lay(r, 3, 0), x.lay(r, 5, 0), x.lay(r, 6, 0));
  }

  private void image() {
    note("image", x.back());
    counts();
    stages();
    for (int p = 0; p < 2; p++) {
      int sets = Math.min(16, x.sets(p));
      for (int set = 0; set < sets; set++) note("chooses", x.setOf(p, set, 3));
    }
    long rules = x.count(3);
    int last = x.ways((int) x.count(1)) - 1;
    for (int rule = 0; rule < rules; rule++) note("rule", x.ruleOf(rule, last));
    worths();
  }

  private void worths() {
    long cards = x.count(0);
    for (int card = 0; card < cards; card++) note("worth", x.worth(card, 0));
  }
}
