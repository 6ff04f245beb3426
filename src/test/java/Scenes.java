/** Tables to begin from: each call makes a new one, by few calls, so that a test has most of the 512 left. */
final class Scenes {
  static final int DEAL = 0, TURN = 1, ASK = 2, VEIL = 3, SHOW = 4, FORGET = 5, TOSS = 6, PEEK = 7;

  private Scenes() {
  }

  /** A table with the stages that a text tells; it fails loudly if the text is wrong. */
  static VeiledTable of(int cards, String text) {
    VeiledTable x = new VeiledTable();
    x.pack(cards);
    int answer = read(x, text);
    if (answer <= 0) throw new IllegalArgumentException("\"" + text + "\" answered " + answer);
    return x;
  }

  /** Puts a text on the tape behind what is there: what the last feed answered. */
  static int feed(VeiledTable x, String text) {
    int answer = 0;
    for (int at = 0; at < text.length(); at += 4) {
      int n = Math.min(4, text.length() - at);
      int bytes = 0;
      for (int i = 0; i < 4; i++) bytes = bytes << 8 | (i < n ? text.charAt(at + i) & 255 : 0);
      answer = x.feed(n, bytes);
    }
    return answer;
  }

  static int read(VeiledTable x, String text) {
    feed(x, text);
    return x.text();
  }

  static VeiledTable fresh() {
    return new VeiledTable();
  }

  /** Something of everything, and an image that is not as the table is now. */
  static VeiledTable busy() {
    VeiledTable x = of(4, "deal 1;ask 0 2;veil 1 3;show 1");
    x.worth(0, 5);
    x.worth(3, -9);
    x.plan(0, 1, 8, 1);
    x.plan(1, 2, 8 * (8 + 1) + 2, 2);
    x.rule(2, 0, 2, 1, 0, 1, 7);
    x.raise(6);
    x.image();
    x.stage(TOSS, 0, 3);
    x.worth(1, 2);
    x.plan(1, 2, 8 * (8 + 2) + 2, 1);
    x.rule(4, 0, 0, 0, 2, 3, -11);
    x.rule(3, 0, 2, 2, 1, 4, 5);
    x.raise(7);
    x.rack(0, 4);
    x.lay(0, 0, 2);
    x.lay(0, 1, 0);
    x.lay(0, 3, 4);
    x.rack(1, 0);
    x.sheet(0, 0, 3);
    x.cell(0, 1, 1);
    x.sheet(1, 1, 40);
    x.cell(1, 0, 1);
    x.cell(1, 39, -7);
    x.sheet(3, 1, 0);
    x.hold(0, 1, 2);
    x.hold(1, 2, 1);
    x.hold(2, 3, 64);
    feed(x, "ask");
    return x;
  }

  /** 46 sets, 40 plans, 8 rules, the greatest stake, a full tape, full racks and sheets. */
  static VeiledTable full() {
    VeiledTable x = of(5, "deal 0;peek 0 3;peek 0 3;veil 0 3;ask 1 2;toss 2");
    x.lot(12345);
    for (int n = 0; n < 8; n++) x.rule(n % 4, n % 6, 5 - n % 6, n % 3, (n + 1) % 3, n % 5, 9 * n - 30);
    raiseToTheGreatest(x);
    for (int r = 0; r < 2; r++) {
      x.rack(r, 6);
      for (int i = 0; i < 6; i++) x.lay(r, i, 5 - i);
    }
    for (int s = 0; s < 4; s++) {
      x.sheet(s, s % 2, 40);
      x.cell(s, 39, 2);
    }
    for (int hand = 0; hand < 4; hand++) x.hold(hand, 1 + hand % 3, hand);
    for (int n = 0; n < 30; n++) x.feed(4, 0x20202020);
    x.image();
    return x;
  }

  /** 2^63 - 1 is 7 * 7 * 73 * 127 * 337 * 92737 * 649657. */
  static void raiseToTheGreatest(VeiledTable x) {
    x.raise(7 * 7 * 73 * 127);
    x.raise(337 * 92737);
    x.raise(649657);
  }
}
