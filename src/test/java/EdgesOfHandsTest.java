import java.io.IOException;
import java.util.Arrays;

/** The edges of promises 30 to 46: texts, racks, sheets, hands, an image; and of what "Terms", part 3, says of them. */
public final class EdgesOfHandsTest {
  private static final int BAD = -2, STATE = -3, FULL = -4, NOTHING = -11, PLACE = -12, KIND = -13, SIZE = -14;
  private static final long NO = VeiledTable.NO;
  private static final int DEAL = 0, TURN = 1, ASK = 2, VEIL = 3, SHOW = 4, FORGET = 5, TOSS = 6, PEEK = 7;
  private static final int LEAST = 1 << 31, MOST = -1 >>> 1;
  private static final int TERMS = Edges.TERMS;
  private static final int[] NO_PLAYERS = {-1, 3, LEAST, MOST};
  private static final int[] NO_HANDS = {-1, 4, LEAST, MOST};
  private static Edges edges;

  public static void main(String[] args) throws IOException {
    edges = new Edges();
    feed();
    feedIsFull();
    text();
    tokens();
    statements();
    statementsInARow();
    faultAtToken();
    faultForRoom();
    faultAtEnd();
    nothingComesOfAFault();
    racksAtFirst();
    rack();
    lay();
    build();
    buildEnds();
    maybe();
    rowsOfSheets();
    sheet();
    cell();
    read();
    loadPlans();
    loadPlansEnds();
    handsAtFirst();
    hold();
    asStage();
    asAmount();
    asView();
    image();
    back();
    backToOthers();
    count();
    edges.end("EdgesOfHandsTest", 30, 46);
  }

  private static VeiledTable of(int cards, String text) {
    return Scenes.of(cards, text);
  }

  // ---- texts

  private static void feed() {
    edges.of(30, "The n (1 .. 4) highest bytes of a number come behind THE TAPE, the highest first: how many it has. BAD; FULL.");
    for (int n : new int[] {0, 5, -1, LEAST, MOST}) edges.refused(Scenes::busy, "feed(" + n + ", 0)", x -> x.feed(n, 0x20202020), BAD);
    for (int n = 1; n <= 4; n++) edges.is("feed(" + n + ", ..)", new VeiledTable().feed(n, -1), n);
    VeiledTable x = new VeiledTable();
    edges.is("s", x.feed(1, 's' << 24 | 'x' << 16 | 'x' << 8 | 'x'), 1);
    edges.is("ho", x.feed(2, 'h' << 24 | 'o' << 16 | 'x' << 8 | 'x'), 3);
    edges.is("w 1", x.feed(3, 'w' << 24 | ' ' << 16 | '1' << 8 | 'x'), 6);
    edges.is("; as", x.feed(4, ';' << 24 | ' ' << 16 | 'a' << 8 | 's'), 10);
    edges.is("k 2 ", x.feed(4, 'k' << 24 | ' ' << 16 | '2' << 8 | ' '), 14);
    edges.is("3", x.feed(1, '3' << 24), 15);
    edges.is("show 1; ask 2 3", x.text(), 2);
    edges.is("show", x.stageOf(0, 0), SHOW);
    edges.is("of 1", x.stageOf(0, 1), 1);
    edges.is("ask", x.stageOf(1, 0), ASK);
    edges.is("of 2", x.stageOf(1, 1), 2);
    edges.is("of three", x.stageOf(1, 2), 3);
    edges.is("the tape is empty then", x.feed(1, 0), 1);
    VeiledTable y = new VeiledTable();
    y.feed(4, 't' << 24 | 'u' << 16 | 'r' << 8 | 'n');
    y.feed(1, 0xBB000000);
    edges.is("a byte of 128 and more is not taken for another: 187 is no ;", y.text(), -104);
  }

  private static void feedIsFull() {
    edges.of(TERMS, "THE TAPE (bytes, 120 at most)");
    for (int n = 1; n <= 4; n++) {
      VeiledTable x = new VeiledTable();
      int has = 0;
      while (has + n <= 120) {
        has += n;
        edges.is("feed(" + n + ", ..)", x.feed(n, 0x20202020), has);
      }
      edges.is("one byte too many", x.feed(n, 0), FULL);
      edges.is("two", x.feed(Math.min(4, n + 1), 0), FULL);
      edges.is("how many bytes there are", x.text(), -100 - 120);
    }
    for (int room = 0; room < 4; room++) {
      int left = room;
      for (int n = 1; n <= 4; n++) {
        int more = n;
        Edges.Scene scene = () -> blanks(120 - left);
        edges.of(30, "BAD; FULL.");
        if (n > room) edges.refused(scene, n + " bytes with room for " + room, x -> x.feed(more, -1), FULL);
        else edges.is(n + " bytes with room for " + room, scene.made().feed(n, 0), 120 - room + n);
      }
    }
    VeiledTable x = blanks(116);
    edges.is("the last four bytes count", Scenes.feed(x, "turn"), 120);
    edges.is("they are read", x.text(), 1);
    edges.is("120 bytes can come again", Scenes.feed(x, " ".repeat(120)), 120);
  }

  private static VeiledTable blanks(int n) {
    VeiledTable x = new VeiledTable();
    Scenes.feed(x, " ".repeat(n));
    return x;
  }

  private static void text() {
    edges.of(31, "THE TAPE, which is empty then, is read: how many STATEMENTS; -100 less the FAULT.");
    for (int n = 1; n <= 6; n++) {
      VeiledTable x = new VeiledTable();
      edges.is(n + " statements", Scenes.read(x, "toss 2" + ";toss 2".repeat(n - 1)), n);
      edges.is("as many stages", x.count(1), n);
      edges.is("the tape is empty", x.text(), -100);
    }
    VeiledTable x = of(3, "turn;toss 2");
    edges.is("behind those that are there: how many came", Scenes.read(x, "ask 0 2"), 1);
    edges.is("how many there are", x.count(1), 3);
    edges.is("the last", x.stageOf(2, 0), ASK);
    edges.is("a fault empties the tape too", Scenes.read(x, "turn;x"), -105);
    edges.is("so it is empty", x.feed(1, 0), 1);
  }

  private static void tokens() {
    edges.of(TERMS, "TOKENS, each as long as can be: WORDS (a .. z), NUMBERS (digits; 9 at most in value), SIGN ; ; blanks (32) may stand between");
    String[] right = {"deal 0", "deal0", "  deal  0  ", "deal 00", "deal 0000000000000000000000000000000000", "ask 0 02", "ask 1 003", "toss2", "toss 2;turn",
      " toss 2 ; turn ", "turn;toss3;ask2 3", "peek0 3"};
    for (String text : right) edges.is("\"" + text + "\"", Scenes.read(new VeiledTable(), text) > 0 ? 1 : 0, 1);
    // Where two tokens run together they are one, which is another.
    String[] wrong = {"deals 0", "turndeal 0", "de al 0", "deal 0 0", "ask 02", "ask 0 22", "ask 12", "ask 12 2", "toss 20", "toss 02 2", "peek 00 03 3"};
    int[] faults = {0, 0, 0, 7, 6, 6, 4, 4, 5, 8, 11};
    for (int n = 0; n < wrong.length; n++) edges.is("\"" + wrong[n] + "\"", Scenes.read(new VeiledTable(), wrong[n]), -100 - faults[n]);
    edges.of(TERMS, "another WORD or NUMBER, a byte that begins none");
    for (int b = 0; b < 256; b++) {
      boolean isWord = b >= 'a' && b <= 'z';
      boolean isDigit = b >= '0' && b <= '9';
      String one = String.valueOf((char) b);
      edges.is("byte " + b + " alone", Scenes.read(new VeiledTable(), one), b == ' ' ? -101 : -100);
      edges.is("byte " + b + " in a word", Scenes.read(new VeiledTable(), "de" + one + "al 0"), -100);
      edges.is("byte " + b + " behind a word", Scenes.read(new VeiledTable(), "deal" + one + "0"), b == '0' || b == ' ' ? 1 : isWord ? -100 : -104);
      edges.is("byte " + b + " behind a number", Scenes.read(new VeiledTable(), "toss 2" + one), isDigit ? -105 : b == ' ' ? 1 : b == ';' ? -107 : -106);
    }
  }

  private static void statements() {
    edges.of(TERMS, "deal P, turn, ask P K, veil P K, show P, forget P, toss K, peek P K: a STAGE (P: 0 .. 2, K: 2 or 3)");
    String[] words = {"deal", "turn", "ask", "veil", "show", "forget", "toss", "peek"};
    for (int kind = 0; kind < 8; kind++) {
      boolean hasP = kind != TURN && kind != TOSS;
      boolean hasK = kind == ASK || kind == VEIL || kind == TOSS || kind == PEEK;
      for (int p = 0; p <= 9 && (hasP || p == 0); p++) {
        for (int k = 0; k <= 9 && (hasK || k == 0); k++) {
          VeiledTable x = new VeiledTable();
          String upToP = words[kind] + (hasP ? " " + p : "");
          String text = upToP + (hasK ? " " + k : "");
          int fault = p > 2 ? words[kind].length() + 1 : hasK && k != 2 && k != 3 ? upToP.length() + 1 : -1;
          edges.is("\"" + text + "\"", Scenes.read(x, text), fault < 0 ? 1 : -100 - fault);
          edges.is("what comes of it", x.count(1), fault < 0 ? 1 : 0);
          if (fault < 0) edges.is("its kind, player, k", x.stageOf(0, 0) * 100 + x.stageOf(0, 1) * 10 + x.stageOf(0, 2), kind * 100 + p * 10 + k);
        }
      }
      for (int at = 0; at < words[kind].length(); at++) {
        char other = words[kind].charAt(at) == 'z' ? 'a' : (char) (words[kind].charAt(at) + 1);
        String word = words[kind].substring(0, at) + other + words[kind].substring(at + 1);
        edges.is("another WORD: " + word, Scenes.read(new VeiledTable(), word + " 0 2"), -100);
      }
      edges.is("an end of the word", Scenes.read(new VeiledTable(), words[kind].substring(1) + " 0 2"), -100);
      edges.is("a beginning of the word", Scenes.read(new VeiledTable(), words[kind].substring(0, words[kind].length() - 1) + " 0 2"), -100);
      edges.is("the word twice", Scenes.read(new VeiledTable(), words[kind] + words[kind]), -100);
    }
  }

  private static void statementsInARow() {
    edges.of(TERMS, "TEXT: STATEMENT { ; STATEMENT }.");
    edges.is("one", Scenes.read(new VeiledTable(), "turn"), 1);
    edges.is("two", Scenes.read(new VeiledTable(), "turn;turn"), 2);
    edges.is("none", Scenes.read(new VeiledTable(), ""), -100);
    edges.is("one ahead of it", Scenes.read(new VeiledTable(), ";turn"), -100);
    edges.is("one behind it", Scenes.read(new VeiledTable(), "turn;"), -105);
    edges.is("two between", Scenes.read(new VeiledTable(), "turn;;turn"), -105);
    edges.is("none between", Scenes.read(new VeiledTable(), "turn turn"), -105);
    edges.is("none between, behind a number", Scenes.read(new VeiledTable(), "toss 2 turn"), -107);
    VeiledTable x = new VeiledTable();
    x.pack(5);
    edges.is("as many as there can be", Scenes.read(x, "deal 2;forget 2;peek 1 3;show 1;veil 0 2;turn"), 6);
    int[][] stages = {{DEAL, 2, 0}, {FORGET, 2, 0}, {PEEK, 1, 3}, {SHOW, 1, 0}, {VEIL, 0, 2}, {TURN, 0, 0}};
    for (int i = 0; i < 6; i++) for (int what = 0; what < 3; what++) edges.is("in order: stage " + i, x.stageOf(i, what), stages[i][what]);
  }

  private static void faultAtToken() {
    edges.of(TERMS, "FAULT: the first byte of the first TOKEN that can't stand there");
    String[] texts = {";", "0", "2 deal", "deal deal 0", "deal ;0", "deal turn", "turn turn", "turn 0", "turn toss 2", "ask 0 ask", "ask 0 ;", "ask ; 2",
      "ask ask", "toss toss", "toss ;2", "show 0 1", "show 0 show 1", "deal 0 ; ; turn", "deal 0;;turn", "deal 0;0", "deal 0;deal", "turn;turn 1",
      "toss 2 3", "peek 0 2 2", "veil 1 2 turn", "forget 3;x", "   forget   7", "turn;  ;", ";turn", "deal 0;x;y", "toss 2;toss 4;toss 5"};
    int[] faults = {0, 0, 0, 5, 5, 5, 5, 5, 5, 6, 6, 4, 4, 5, 5, 7, 7, 9, 7, 7, 11, 10, 7, 9, 9, 7, 12, 7, 0, 7, 12};
    for (int n = 0; n < texts.length; n++) {
      VeiledTable x = new VeiledTable();
      edges.is("\"" + texts[n] + "\"", Scenes.read(x, texts[n]), -100 - faults[n]);
      edges.is("nothing comes of it", x.count(1), 0);
    }
    VeiledTable late = new VeiledTable();
    edges.is("the last byte of 120", Scenes.read(late, "turn" + " ".repeat(115) + "x"), -100 - 119);
  }

  private static void faultForRoom() {
    edges.of(TERMS, "the WORD of a STAGE for which there is no room, deal or turn while all CARDS are out");
    String six = "toss 2;toss 2;toss 2;toss 2;toss 2;toss 2";
    for (String word : new String[] {"deal 0", "turn", "ask 0 2", "veil 0 2", "show 0", "forget 0", "toss 2", "peek 0 2", "deal", "ask 9", "toss x"}) {
      edges.is("a seventh: " + word, Scenes.read(new VeiledTable(), six + ";" + word), -100 - 42);
      edges.is("a seventh behind six that are there: " + word, Scenes.read(of(3, six), word), -100);
      edges.is("a seventh behind five that are there: " + word, Scenes.read(of(3, six.substring(7)), "show 0;" + word), -100 - 7);
    }
    for (int m = 1; m <= 5; m++) {
      for (String word : new String[] {"deal 0", "turn", "deal", "turn 7", "deal x"}) {
        VeiledTable x = new VeiledTable();
        x.pack(m);
        edges.is(word + " behind all of " + m, Scenes.read(x, "turn;".repeat(m) + word), -100 - 5 * m);
        edges.is("nothing comes of it", x.count(1), 0);
      }
      VeiledTable x = new VeiledTable();
      x.pack(m);
      edges.is("as many as cards", Scenes.read(x, "turn" + ";deal 0".repeat(m - 1)), m);
      edges.is("and no more", Scenes.read(x, "show 0;deal 0"), -107);
      edges.is("others need no card", Scenes.read(x, "show 0"), 1);
    }
  }

  private static void faultAtEnd() {
    edges.of(TERMS, "or how many bytes there are, if it ends too early");
    String[] texts = {"", " ", "    ", "deal", "deal ", "deal 0;", "deal 0; ", "deal 0 ;  ", "ask", "ask 0", "ask 0  ", "toss", "toss ", "show", "forget ",
      "peek 2", "turn;", "turn ;", "turn; show", "turn;ask 2 "};
    for (String text : texts) {
      VeiledTable x = new VeiledTable();
      edges.is("\"" + text + "\"", Scenes.read(x, text), -100 - text.length());
      edges.is("nothing comes of it", x.count(1), 0);
    }
    edges.is("a full tape that ends too early", Scenes.read(new VeiledTable(), " ".repeat(116) + "deal"), -100 - 120);
  }

  private static void nothingComesOfAFault() {
    edges.of(TERMS, "With a FAULT nothing comes of it.");
    for (String text : new String[] {"", "toss 2;", "toss 2;toss 9", "toss 2;toss", "toss 2;toss 2", "deal 0;deal 0;x", "toss 2,"}) {
      VeiledTable x = of(2, "ask 0 2;turn;deal 0;veil 1 2;show 0");
      VeiledTable y = of(2, "ask 0 2;turn;deal 0;veil 1 2;show 0");
      edges.is("\"" + text + "\"", Scenes.read(x, text) <= -100 ? 1 : 0, 1);
      edges.is("all is as it was but the tape", Picture.of(x).equals(Picture.of(y)) ? 1 : 0, 1);
    }
  }

  // ---- racks

  private static void racksAtFirst() {
    edges.of(TERMS, "RACKS 0, 1 are rows of 0 .. 6 places for STAGES, or missing (at first).");
    for (int r = 0; r < 2; r++) {
      VeiledTable x = of(3, "turn;toss 2");
      edges.is("missing at first", x.build(r), NOTHING);
      edges.is("it has no places", x.lay(r, 0, 0), NOTHING);
      edges.is("none above six", x.rack(r, 7), BAD);
      edges.is("still missing", x.build(r), NOTHING);
      edges.is("six", x.rack(r, 6), 1);
      for (int i = 0; i < 6; i++) edges.is("place " + i, x.lay(r, i, 1), 1);
      edges.is("no seventh", x.lay(r, 6, 1), PLACE);
      edges.is("all six", x.build(r), 6);
      edges.is("none", x.rack(r, 0), 1);
      edges.is("it is there, without places", x.lay(r, 0, 0), PLACE);
      edges.is("the other is missing", x.build(1 - r), NOTHING);
    }
    edges.is("there is no rack -1", new VeiledTable().rack(-1, 1), BAD);
    edges.is("nor rack 2", new VeiledTable().rack(2, 1), BAD);
  }

  private static void rack() {
    edges.of(32, "A RACK becomes a row of n (0 .. 6) empty places, or missing (n -9): 1. BAD: r, n above 6; SIZE: n below 0 (but -9).");
    for (int r : new int[] {-1, 2, LEAST, MOST}) edges.refused(Scenes::busy, "rack(" + r + ", 1)", x -> x.rack(r, 1), BAD);
    for (int n : new int[] {7, 8, MOST}) edges.refused(Scenes::busy, "rack(0, " + n + ")", x -> x.rack(0, n), BAD);
    for (int n : new int[] {-1, -2, -8, -10, LEAST}) edges.refused(Scenes::busy, "rack(0, " + n + ")", x -> x.rack(0, n), SIZE);
    for (int r = 0; r < 2; r++) {
      VeiledTable x = of(3, "toss 2");
      for (int n = 0; n <= 6; n++) {
        edges.is("rack(" + r + ", " + n + ")", x.rack(r, n), 1);
        if (n > 0) edges.is("its last place", x.lay(r, n - 1, 0), 1);
        edges.is("behind it", x.lay(r, n, 0), PLACE);
        if (n > 1) edges.is("the first is empty", x.build(r), 0);
        x.pack(3);
        x.stage(TOSS, 0, 2);
      }
      x.lay(r, 0, 0);
      edges.is("anew", x.rack(r, 6), 1);
      edges.is("its places are empty", x.build(r), 0);
      edges.is("missing", x.rack(r, -9), 1);
      edges.is("it is", x.build(r), NOTHING);
      edges.is("missing again", x.rack(r, -9), 1);
      edges.is("the other was never there", x.build(1 - r), NOTHING);
    }
    VeiledTable x = Scenes.full();
    x.rack(0, 2);
    edges.is("the other is as it was", x.build(1), 6);
    edges.is("what lay in it is gone", x.build(0), 0);
    x.rack(1, 3);
    x.rack(1, 6);
    edges.is("smaller and greater again: empty", x.build(1), 0);
  }

  private static void lay() {
    edges.of(33, "A STAGE, as it is now, for good, comes to place i of a RACK: 1. BAD: r, stage; NOTHING; PLACE.");
    for (int r : new int[] {-1, 2, LEAST, MOST}) edges.refused(Scenes::busy, "lay(" + r + ", 0, 0)", x -> x.lay(r, 0, 0), BAD);
    for (int stage : new int[] {-1, 5, 6, LEAST, MOST}) edges.refused(Scenes::busy, "lay(0, 0, " + stage + ")", x -> x.lay(0, 0, stage), BAD);
    for (int i : new int[] {-1, 4, 6, LEAST, MOST}) edges.refused(Scenes::busy, "lay(0, " + i + ", 0)", x -> x.lay(0, i, 0), PLACE);
    edges.refused(Scenes::busy, "lay(1, 0, 0) with no places", x -> x.lay(1, 0, 0), PLACE);
    edges.refused(() -> of(3, "turn"), "lay(0, 0, 0) with no rack", x -> x.lay(0, 0, 0), NOTHING);
    VeiledTable x = of(2, "deal 1;veil 2 3;toss 2");
    x.rack(0, 6);
    for (int i = 0; i < 6; i++) edges.is("to each place", x.lay(0, i, 1), 1);
    edges.is("over another", x.lay(0, 0, 0), 1);
    x.pack(5);
    Scenes.read(x, "show 0;show 0;show 0");
    edges.is("for good, whatever stages there are", x.build(0), 6);
    edges.is("the first", x.stageOf(0, 0) * 100 + x.stageOf(0, 1) * 10 + x.stageOf(0, 2), DEAL * 100 + 10);
    for (int i = 1; i < 6; i++) edges.is("the others", x.stageOf(i, 0) * 100 + x.stageOf(i, 1) * 10 + x.stageOf(i, 2), VEIL * 100 + 20 + 3);
  }

  private static void build() {
    edges.of(34, "STAGES become those that lie in a RACK, in order");
    for (int r : new int[] {-1, 2, LEAST, MOST}) edges.refused(Scenes::busy, "build(" + r + ")", x -> x.build(r), BAD);
    for (int r = 0; r < 2; r++) {
      int which = r;
      edges.refused(() -> of(3, "turn"), "build(" + r + ") of none", x -> x.build(which), NOTHING);
    }
    VeiledTable x = Scenes.full();
    edges.is("six, turned around", x.build(0), 6);
    int[] kinds = {TOSS, ASK, VEIL, PEEK, PEEK, DEAL};
    for (int i = 0; i < 6; i++) edges.is("stage " + i, x.stageOf(i, 0), kinds[i]);
    edges.is("plans stay", x.count(2), 40);
    edges.is("rules stay", x.count(3), 8);
    edges.is("the rack stays", x.build(0), 6);
    edges.is("ways", x.ways(6), 2 * 2 * 3 * 3 * 3 * 5);
  }

  private static void buildEnds() {
    edges.of(34, "up to the first place that is empty, or whose STAGE there could not be: how many");
    VeiledTable x = Scenes.busy();
    edges.is("the third place is empty", x.build(0), 2);
    edges.is("the first", x.stageOf(0, 0), VEIL);
    edges.is("the second", x.stageOf(1, 0), DEAL);
    edges.is("none are left of those ahead", x.count(1), 2);
    edges.is("a rack without places", x.build(1), 0);
    edges.is("no stages", x.count(1), 0);
    x = of(3, "turn;toss 2");
    x.rack(0, 6);
    edges.is("all places are empty", x.build(0), 0);
    for (int m = 1; m <= 5; m++) {
      VeiledTable y = of(5, "turn;toss 2;deal 1");
      y.rack(1, 6);
      for (int i = 0; i < 6; i++) y.lay(1, i, i == 0 ? 1 : i % 2 == 0 ? 0 : 2);
      y.pack(m);
      edges.is("as many cards as there are: " + m, y.build(1), m + 1);
      edges.is("count(1)", y.count(1), m + 1);
    }
    VeiledTable y = of(5, "turn;toss 2");
    y.rack(0, 3);
    for (int i = 0; i < 3; i++) y.lay(0, i, i == 2 ? 1 : 0);
    y.pack(1);
    edges.is("what lies behind the one that could not be does not come", y.build(0), 1);
  }

  // ---- sheets

  private static void maybe() {
    edges.of(35, "place e (0 .. 4): whether e happened in STAGE i (below j) in some WAY behind j STAGES of such a VIEW for a PLAYER: how many yeses. BAD: s, p, j, i.");
    for (int s : new int[] {-1, 4, LEAST, MOST}) edges.refused(Scenes::busy, "maybe(" + s + ", ..)", x -> x.maybe(s, 0, 1, 8, 0), BAD);
    for (int p : NO_PLAYERS) edges.refused(Scenes::busy, "maybe for player " + p, x -> x.maybe(1, p, 1, 8, 0), BAD);
    for (int j : new int[] {-1, 6, LEAST, MOST}) edges.refused(Scenes::busy, "maybe behind " + j, x -> x.maybe(1, 0, j, 8, 0), BAD);
    for (int i : new int[] {-1, 1, 2, LEAST, MOST}) edges.refused(Scenes::busy, "maybe in stage " + i, x -> x.maybe(1, 0, 1, 8, i), BAD);
    edges.refused(Scenes::busy, "maybe behind none", x -> x.maybe(1, 0, 0, 1, 0), BAD);
    edges.refused(Scenes::fresh, "maybe of no stages", x -> x.maybe(1, 0, 0, 1, 0), BAD);
    for (int m = 1; m <= 5; m++) {
      VeiledTable x = of(m, "deal 0");
      edges.is("all cards of " + m, x.maybe(3, 1, 1, 8, 0), m);
      for (int e = 0; e < 5; e++) edges.is("card " + e, x.read(3, e), e < m ? 1 : 0);
      edges.is("five places, no more", x.read(3, 5), PLACE);
      edges.is("its own", x.maybe(3, 0, 1, 8 + m, 0), 1);
      for (int e = 0; e < 5; e++) edges.is("card " + e, x.read(3, e), e == m - 1 ? 1 : 0);
      for (int view : new int[] {0, 8, -9, 8 + m + 1, LEAST, MOST}) edges.is("no such view", x.maybe(3, 0, 1, view, 0), 0);
      for (int e = 0; e < 5; e++) edges.is("all no", x.read(3, e), 0);
    }
    VeiledTable two = of(3, "deal 0;deal 1");
    edges.is("who has card 0: the other hasn't", two.maybe(3, 0, 2, 72, 1), 2);
    for (int e = 0; e < 5; e++) edges.is("card " + e, two.read(3, e), e == 1 || e == 2 ? 1 : 0);
    VeiledTable x = Scenes.busy();
    edges.is("in ways that aren't played too", x.maybe(1, 2, 2, 65, 0), 4);
    edges.is("what was a row of forty ints has five places", x.read(1, 5), PLACE);
    x.cell(1, 4, -7);
    edges.is("of yes and no", x.read(1, 4), 1);
    edges.is("a sheet that was missing", x.maybe(2, 2, 2, 65, 1), 1);
    edges.is("it is there", x.read(2, 0), 1);
  }

  private static void rowsOfSheets() {
    edges.of(TERMS, "SHEETS 0 .. 3 are rows of at most 40: of sort 0 yes or no (1, 0), 1 ints");
    for (int s = 0; s < 4; s++) {
      VeiledTable x = new VeiledTable();
      for (int sort = 0; sort < 2; sort++) {
        edges.is("forty", x.sheet(s, sort, 40), 1);
        edges.is("no more", x.sheet(s, sort, 41), BAD);
        for (int v : new int[] {LEAST, -1, 0, 1, 2, MOST}) {
          edges.is("the last", x.cell(s, 39, v), 1);
          edges.is("v of sort " + sort, x.read(s, 39), sort == 1 ? v : v == 0 ? 0 : 1);
        }
        edges.is("none behind it", x.read(s, 40), PLACE);
        for (int other = 0; other < 4; other++) if (other != s) edges.is("another", x.read(other, 0), NOTHING);
      }
    }
    edges.is("there is no sheet -1", new VeiledTable().sheet(-1, 0, 1), BAD);
    edges.is("nor sheet 4", new VeiledTable().sheet(4, 0, 1), BAD);
  }

  private static void sheet() {
    edges.of(36, "A SHEET becomes a row of n of a sort, all no, 0, or missing (sort -1; n doesn't matter): 1. BAD: s, sort, n above 40; SIZE: n below 0.");
    for (int s : new int[] {-1, 4, LEAST, MOST}) edges.refused(Scenes::busy, "sheet(" + s + ", 0, 1)", x -> x.sheet(s, 0, 1), BAD);
    for (int sort : new int[] {-2, 2, LEAST, MOST}) edges.refused(Scenes::busy, "sheet(0, " + sort + ", 1)", x -> x.sheet(0, sort, 1), BAD);
    for (int sort = 0; sort < 2; sort++) {
      int which = sort;
      for (int n : new int[] {41, 42, MOST}) edges.refused(Scenes::busy, "sheet(0, " + sort + ", " + n + ")", x -> x.sheet(0, which, n), BAD);
      for (int n : new int[] {-1, -9, LEAST}) edges.refused(Scenes::busy, "sheet(0, " + sort + ", " + n + ")", x -> x.sheet(0, which, n), SIZE);
      for (int s = 0; s < 4; s++) {
        for (int n : new int[] {0, 1, 39, 40}) {
          VeiledTable x = Scenes.full();
          edges.is("sheet(" + s + ", " + sort + ", " + n + ")", x.sheet(s, sort, n), 1);
          for (int i = 0; i < n; i++) edges.is("all no, 0", x.read(s, i), 0);
          edges.is("no more places", x.read(s, n), PLACE);
          if (n == 0) continue;
          x.cell(s, n - 1, -3);
          edges.is("of its sort", x.read(s, n - 1), sort == 0 ? 1 : -3);
        }
      }
    }
    for (int n : new int[] {0, 1, 40, 41, -1, LEAST, MOST}) {
      VeiledTable x = Scenes.full();
      edges.is("missing, n " + n, x.sheet(2, -1, n), 1);
      edges.is("it is", x.read(2, 0), NOTHING);
      edges.is("others are there", x.read(1, 39), 2);
    }
    edges.of(TERMS, "or missing (-1; at first)");
    for (int s = 0; s < 4; s++) edges.is("sheet " + s, new VeiledTable().read(s, 0), NOTHING);
  }

  private static void cell() {
    edges.of(37, "Place i of a SHEET becomes v (yes, if it isn't 0): 1. BAD: s; NOTHING; PLACE.");
    for (int s : new int[] {-1, 4, LEAST, MOST}) edges.refused(Scenes::busy, "cell(" + s + ", 0, 1)", x -> x.cell(s, 0, 1), BAD);
    edges.refused(Scenes::busy, "cell(2, 0, 1) of none", x -> x.cell(2, 0, 1), NOTHING);
    for (int i : new int[] {-1, 3, 39, 40, LEAST, MOST}) edges.refused(Scenes::busy, "cell(0, " + i + ", 1)", x -> x.cell(0, i, 1), PLACE);
    for (int i : new int[] {-1, 40, 41, LEAST, MOST}) edges.refused(Scenes::busy, "cell(1, " + i + ", 1)", x -> x.cell(1, i, 1), PLACE);
    edges.refused(Scenes::busy, "cell(3, 0, 1) with no places", x -> x.cell(3, 0, 1), PLACE);
    VeiledTable x = Scenes.busy();
    for (int v : new int[] {0, 1, -1, 2, LEAST, MOST}) {
      edges.is("of yes and no", x.cell(0, 2, v), 1);
      edges.is("yes, if it isn't 0", x.read(0, 2), v == 0 ? 0 : 1);
      edges.is("of ints", x.cell(1, 39, v), 1);
      edges.is("v", x.read(1, 39), v);
    }
    edges.is("the place ahead is as it was", x.read(0, 1), 1);
  }

  private static void read() {
    edges.of(38, "Place i of a SHEET. BAD: s; NOTHING; PLACE.");
    for (int s : new int[] {-1, 4, LEAST, MOST}) edges.refused(Scenes::busy, "read(" + s + ", 0)", x -> x.read(s, 0), BAD);
    edges.refused(Scenes::busy, "read(2, 0) of none", x -> x.read(2, 0), NOTHING);
    for (int i : new int[] {-1, 3, 39, 40, LEAST, MOST}) edges.refused(Scenes::busy, "read(0, " + i + ")", x -> x.read(0, i), PLACE);
    for (int i : new int[] {-1, 40, 41, LEAST, MOST}) edges.refused(Scenes::busy, "read(1, " + i + ")", x -> x.read(1, i), PLACE);
    edges.refused(Scenes::busy, "read(3, 0) with no places", x -> x.read(3, 0), PLACE);
    edges.is("the first", Scenes.busy().read(1, 0), 1);
    edges.is("the last", Scenes.busy().read(1, 39), -7);
    edges.is("the first of yes and no", Scenes.busy().read(0, 0), 0);
    edges.is("the last of yes and no", Scenes.busy().read(0, 2), 0);
  }

  /** A sheet of ints with these. */
  private static void write(VeiledTable x, int s, int... numbers) {
    x.sheet(s, 1, numbers.length);
    for (int i = 0; i < numbers.length; i++) x.cell(s, i, numbers[i]);
  }

  private static void loadPlans() {
    edges.of(39, "Numbers of a SHEET (of either sort) tell PLANS for SETS 0, 1, .. of a PLAYER: how many came");
    for (int s : new int[] {-1, 4, LEAST, MOST}) edges.refused(Scenes::busy, "loadPlans(" + s + ", 0)", x -> x.loadPlans(s, 0), BAD);
    for (int p : NO_PLAYERS) edges.refused(Scenes::busy, "loadPlans(1, " + p + ")", x -> x.loadPlans(1, p), BAD);
    edges.refused(Scenes::busy, "loadPlans(2, 0) of none", x -> x.loadPlans(2, 0), NOTHING);
    edges.refused(Scenes::busy, "loadPlans(2, 2) of none, for none", x -> x.loadPlans(2, 2), NOTHING);
    edges.leaves(Scenes::busy, "of a row without places", x -> x.loadPlans(3, 1), 0);
    edges.leaves(Scenes::busy, "for who has no sets", x -> x.loadPlans(1, 2), 0);
    VeiledTable x = of(3, "deal 0;ask 0 3");
    write(x, 0, 2, 0, 1);
    edges.is("as many as sets", x.loadPlans(0, 0), 3);
    for (int n = 0; n < 3; n++) edges.is("set " + n, x.setOf(0, n, 3), x.read(0, n));
    x.sheet(1, 0, 2);
    x.cell(1, 0, 9);
    edges.is("less than sets, of yes and no", x.loadPlans(1, 0), 2);
    edges.is("yes is 1", x.setOf(0, 0, 3), 1);
    edges.is("no is 0", x.setOf(0, 1, 3), 0);
    edges.is("the third stays", x.setOf(0, 2, 3), 1);
    edges.is("a plan of 0 is told", x.count(2), 3);
  }

  private static void loadPlansEnds() {
    edges.of(39, "it ends at the first that is none below k, for which there is no SET, or that is FULL");
    for (int k = 2; k <= 3; k++) {
      for (int wrong : new int[] {k, k + 1, -1, LEAST, MOST}) {
        for (int at = 0; at < 3; at++) {
          VeiledTable x = of(3, "turn;veil 2 " + k);
          int[] numbers = {k - 1, k - 1, k - 1};
          numbers[at] = wrong;
          write(x, 3, numbers);
          edges.is(wrong + " of " + k + " at " + at, x.loadPlans(3, 2), at);
          edges.is("those ahead are told", x.count(2), at);
          for (int n = 0; n < 3; n++) edges.is("set " + n, x.setOf(2, n, 3), n < at ? k - 1 : 0);
        }
      }
    }
    VeiledTable x = of(3, "turn;ask 0 2;ask 0 3");
    write(x, 0, 1, 1, 1, 2, 2, 2, 2, 2, 2, 0);
    edges.is("k of each set: nine sets, ten numbers", x.loadPlans(0, 0), 9);
    write(x, 0, 1, 1, 2, 2);
    edges.is("k of each set", x.loadPlans(0, 0), 2);
    VeiledTable y = of(5, "toss 2;toss 2;deal 0;peek 0 3;veil 0 3;ask 1 2");
    y.plan(1, 5, y.setOf(1, 0, 1), 1);
    y.plan(0, 4, y.setOf(0, 5, 1), 1);
    int[] all = new int[40];
    Arrays.fill(all, 2);
    write(y, 0, all);
    edges.is("38 and the one that is told: then it is full", y.loadPlans(0, 0), 39);
    edges.is("count(2)", y.count(2), 40);
    for (int n = 0; n < 60; n++) edges.is("set " + n, y.setOf(0, n, 3), n < 39 ? 2 : 0);
    edges.is("again as far", y.loadPlans(0, 0), 39);
    edges.is("full for all", y.loadPlans(0, 1), 0);
    y.unplan();
    edges.is("forty in all", y.loadPlans(0, 0), 40);
  }

  // ---- hands

  private static void handsAtFirst() {
    edges.of(TERMS, "HANDS 0 .. 3 each hold nothing (sort 0; at first), a STAGE (1; as it was)");
    for (int hand = 0; hand < 4; hand++) {
      VeiledTable x = of(3, "veil 2 3;toss 2");
      edges.is("no stage", x.asStage(hand, 2), NOTHING);
      edges.is("no amount", x.asAmount(hand, 0), NOTHING);
      edges.is("no view", x.asView(hand, 0, 0), NOTHING);
      edges.is("held nothing", x.hold(hand, 1, 0), 0);
      edges.is("a veil", x.asStage(hand, 0), VEIL);
      for (int other = 0; other < 4; other++) if (other != hand) edges.is("another", x.asStage(other, 2), NOTHING);
      x.drop();
      x.drop();
      edges.is("as it was: the stage is gone", x.asStage(hand, 0), VEIL);
      x.stage(PEEK, 1, 2);
      edges.is("as it was: another has its number", x.asStage(hand, 0), VEIL);
      x.pack(1);
      edges.is("as it was: the pack is new", x.asStage(hand, 0), VEIL);
      edges.is("held a stage", x.hold(hand, 0, 0), 1);
      edges.is("nothing again", x.asStage(hand, 2), NOTHING);
    }
    edges.is("there is no hand -1", new VeiledTable().hold(-1, 0, 0), BAD);
    edges.is("nor hand 4", new VeiledTable().hold(4, 0, 0), BAD);
  }

  private static void hold() {
    edges.of(40, "A HAND holds nothing (sort 0; v doesn't matter), STAGE v (1), the amount of RULE v (2), the VIEW v (3): which sort it held. BAD.");
    for (int hand : NO_HANDS) edges.refused(Scenes::busy, "hold(" + hand + ", 0, 0)", x -> x.hold(hand, 0, 0), BAD);
    for (int sort : new int[] {-1, 4, LEAST, MOST}) edges.refused(Scenes::busy, "hold(0, " + sort + ", 0)", x -> x.hold(0, sort, 0), BAD);
    for (long v : new long[] {-1, 5, 6, 1L << 32, (1L << 32) + 4, -1L << 32, 1L << 63, -1L >>> 1}) {
      edges.refused(Scenes::busy, "hold(0, 1, " + v + ")", x -> x.hold(0, 1, v), BAD);
    }
    for (long v : new long[] {-1, 3, 8, 1L << 32, (1L << 32) + 2, -1L << 32, 1L << 63, -1L >>> 1}) {
      edges.refused(Scenes::busy, "hold(1, 2, " + v + ")", x -> x.hold(1, 2, v), BAD);
    }
    edges.refused(Scenes::fresh, "a stage of none", x -> x.hold(0, 1, 0), BAD);
    edges.refused(Scenes::fresh, "a rule of none", x -> x.hold(0, 2, 0), BAD);
    for (int hand = 0; hand < 4; hand++) {
      VeiledTable x = Scenes.busy();
      x.hold(hand, 0, 0);
      int[] sorts = {0, 1, 1, 2, 2, 3, 3, 0, 3, 2, 1, 0};
      int held = 0;
      for (int sort : sorts) {
        edges.is("which sort it held", x.hold(hand, sort, sort == 2 ? 2 : sort == 1 ? 4 : -1), held);
        held = sort;
      }
    }
    for (long v : new long[] {-1, 0, 99, 1L << 63, -1L >>> 1}) edges.is("nothing: v doesn't matter", new VeiledTable().hold(3, 0, v), 0);
    for (long v : new long[] {-1, 0, 99, 1L << 63, -1L >>> 1}) edges.is("any view", new VeiledTable().hold(3, 3, v), 0);
    VeiledTable x = Scenes.busy();
    x.hold(0, 0, 0);
    edges.is("others hold on", x.hold(1, 0, 0), 2);
  }

  private static void asStage() {
    edges.of(41, "taken for one that chooses (kind 0: ASK, VEIL), that is chance (1: DEAL, TURN, TOSS, PEEK), of any (2): its KIND. BAD; NOTHING; KIND: it holds another thing, or is none such.");
    for (int hand : NO_HANDS) edges.refused(Scenes::busy, "asStage(" + hand + ", 2)", x -> x.asStage(hand, 2), BAD);
    for (int kind : new int[] {-1, 3, LEAST, MOST}) edges.refused(Scenes::busy, "asStage(0, " + kind + ")", x -> x.asStage(0, kind), BAD);
    for (int kind = 0; kind < 3; kind++) {
      int which = kind;
      edges.refused(Scenes::busy, "asStage(3, " + kind + ") of nothing", x -> x.asStage(3, which), NOTHING);
      edges.refused(Scenes::busy, "asStage(1, " + kind + ") of an amount", x -> x.asStage(1, which), KIND);
      edges.refused(Scenes::busy, "asStage(2, " + kind + ") of a view", x -> x.asStage(2, which), KIND);
    }
    int[][] kinds = {{DEAL, 0, 1}, {TURN, 0, 1}, {ASK, 2, 0}, {VEIL, 2, 0}, {SHOW, 0, -1}, {FORGET, 0, -1}, {TOSS, 2, 1}, {PEEK, 2, 1}};
    for (int[] k : kinds) {
      VeiledTable x = new VeiledTable();
      x.stage(k[0], 0, k[1]);
      x.hold(0, 1, 0);
      x.pack(1);
      for (int kind = 0; kind < 3; kind++) edges.is("kind " + k[0] + " for " + kind, x.asStage(0, kind), kind == 2 || kind == k[2] ? k[0] : KIND);
    }
  }

  private static void asAmount() {
    edges.of(42, "What the amount that a HAND holds is in a WAY. BAD; NOTHING; KIND.");
    for (int hand : NO_HANDS) edges.refused(Scenes::busy, "asAmount(" + hand + ", 0)", x -> x.asAmount(hand, 0), BAD);
    for (int way : new int[] {-1, 72, LEAST, MOST}) edges.refused(Scenes::busy, "asAmount(1, " + way + ")", x -> x.asAmount(1, way), BAD);
    edges.refused(Scenes::busy, "asAmount of nothing", x -> x.asAmount(3, 0), NOTHING);
    edges.refused(Scenes::busy, "asAmount of a stage", x -> x.asAmount(0, 0), KIND);
    edges.refused(Scenes::busy, "asAmount of a view", x -> x.asAmount(2, 0), KIND);
    edges.of(TERMS, "as that RULE is put together as it is held; by STAGES, WORTHS as they are when it is asked");
    VeiledTable x = Scenes.busy();
    edges.is("the first way: 35 less 11", x.asAmount(1, 0), 24);
    edges.is("the last way, where its test isn't so: -63 less 11", x.asAmount(1, 71), -74);
    for (int n = 0; n < 3; n++) x.unrule();
    edges.is("the rules are gone", x.asAmount(1, 71), -74);
    x.rule(0, 0, 0, 0, 1, 0, 1);
    x.rule(0, 0, 0, 0, 1, 0, 2);
    edges.is("others have their numbers", x.asAmount(1, 71), -74);
    x.worth(3, 1);
    edges.is("worths as they are", x.asAmount(1, 71), 7 - 11);
    for (int n = 0; n < 5; n++) x.drop();
    edges.is("no stages: 0, and -11", x.asAmount(1, 0), -11);
    x.stage(TOSS, 0, 2);
    edges.is("stages as they are: the worth of card 1", x.asAmount(1, 1), 14 - 11);
    x.pack(1);
    edges.is("no worths, no stages", x.asAmount(1, 0), -11);
    VeiledTable none = new VeiledTable();
    none.rule(0, 0, 0, 0, 1, 3, 9);
    none.hold(0, 2, 0);
    edges.is("an amount of itself", none.asAmount(0, 0), 0);
  }

  private static void asView() {
    edges.of(43, "worlds() of the VIEW that a HAND holds. BAD: hand, p, j; NOTHING; KIND.");
    for (int hand : NO_HANDS) edges.refused(Scenes::busy, "asView(" + hand + ", 0, 0)", x -> x.asView(hand, 0, 0), BAD);
    for (int p : NO_PLAYERS) edges.refused(Scenes::busy, "asView(2, " + p + ", 0)", x -> x.asView(2, p, 0), BAD);
    for (int j : new int[] {-1, 6, LEAST, MOST}) edges.refused(Scenes::busy, "asView(2, 0, " + j + ")", x -> x.asView(2, 0, j), BAD);
    edges.refused(Scenes::busy, "asView of nothing", x -> x.asView(3, 0, 0), NOTHING);
    edges.refused(Scenes::busy, "asView of a stage", x -> x.asView(0, 0, 0), KIND);
    edges.refused(Scenes::busy, "asView of an amount", x -> x.asView(1, 0, 0), KIND);
    VeiledTable x = of(3, "deal 0;toss 2");
    x.hold(3, 3, 8);
    edges.is("all are like", x.asView(3, 1, 1), 3);
    edges.is("of who sees", x.asView(3, 0, 1), 0);
    edges.is("behind others", x.asView(3, 1, 2), 0);
    x.hold(3, 3, 1);
    edges.is("behind none", x.asView(3, 2, 0), 1);
    edges.of(TERMS, "a VIEW (3; any long)");
    for (long v : new long[] {8 + (1L << 32), 8 - (1L << 32), 8 + (1L << 63), 1L << 63, -1L >>> 1, -8, 0, 8L << 32}) {
      x.hold(3, 3, v);
      edges.is("view " + v, x.asView(3, 1, 1), 0);
    }
  }

  // ---- an image, counts

  private static void image() {
    edges.of(44, "AN IMAGE is kept: how many STAGES.");
    edges.is("of none", new VeiledTable().image(), 0);
    edges.is("of six", Scenes.full().image(), 6);
    VeiledTable x = Scenes.busy();
    edges.is("of five, where one of four is kept", x.image(), 5);
    VeiledTable y = Scenes.busy();
    edges.is("it changes nothing else", x.mean(2, 0), y.mean(2, 0));
    x.pack(1);
    edges.is("the newer is kept alone", x.back(), 5);
    edges.is("as it was", x.mean(2, 0), y.mean(2, 0));
  }

  private static void back() {
    edges.of(45, "All that it keeps is as in THE IMAGE: how many STAGES. STATE: there is none.");
    edges.refused(Scenes::fresh, "back() to none", x -> x.back(), STATE);
    edges.refused(() -> of(3, "turn;ask 0 2"), "back() to none of two stages", x -> x.back(), STATE);
    edges.of(TERMS, "AN IMAGE keeps THE PACK, STAGES, PLANS, RULES, STAKE");
    VeiledTable none = new VeiledTable();
    none.image();
    Scenes.read(none, "ask 0 2");
    none.lot(2);
    none.rule(0, 0, 0, 0, 1, 0, 1);
    none.raise(2);
    none.worth(2, 2);
    edges.is("to an image of nothing", none.back(), 0);
    int[] counts = {3, 0, 0, 0, 1};
    for (int what = 0; what < 5; what++) edges.is("count(" + what + ")", none.count(what), counts[what]);
    edges.is("worth", none.worth(2, 0), 0);
    VeiledTable x = Scenes.busy();
    for (int time = 0; time < 3; time++) {
      edges.is("back()", x.back(), 4);
      long[] kept = {4, 4, 2, 1, 6};
      for (int what = 0; what < 5; what++) edges.is("count(" + what + ")", x.count(what), kept[what]);
      edges.is("a worth that came later", x.worth(1, 8), 0);
      edges.is("worths", x.worth(0, 8), 5);
      edges.is("worths", x.worth(3, 8), -9);
      edges.is("a plan", x.setOf(1, 1, 3), 2);
      edges.is("a plan that came later", x.setOf(1, 3, 3), 0);
      edges.is("a rule", x.ruleOf(0, x.ways(4) - 1), 7 * 8);
      x.plan(1, 2, x.setOf(1, 3, 1), 1);
      x.rule(0, 0, 0, 0, 1, 0, 9);
      x.raise(3);
      x.stage(SHOW, 0, 0);
      if (time == 1) x.pack(5);
    }
    edges.is("sheets are not kept", x.read(1, 39), -7);
    edges.is("nor hands", x.asStage(0, 2), VEIL);
    edges.is("nor racks", x.build(0), 2);
    edges.is("nor the tape", x.feed(1, 0), 4);
    edges.is("it stays for later", x.back(), 4);
  }

  private static void backToOthers() {
    edges.of(45, "All that it keeps is as in THE IMAGE");
    VeiledTable x = of(3, "toss 3;ask 0 3;ask 1 2");
    for (int n = 0; n < 3; n++) x.plan(0, 1, 9 + n, 2 - n);
    x.plan(1, 2, 8 * 9 + 3, 1);
    x.worth(2, 4);
    x.rule(1, 0, 1, 0, 1, 1, 3);
    x.rule(0, 0, 1, 1, 2, 2, 5);
    x.rule(4, 0, 0, 2, 0, 3, 7);
    x.raise(3);
    x.image();
    // All that was kept becomes something else, in the same places.
    x.pack(5);
    Scenes.read(x, "deal 2;veil 2 2;peek 1 3;ask 1 3;show 2");
    for (int n = 0; n < 5; n++) x.plan(2, 1, 9 + n, 1);
    for (int n = 0; n < 4; n++) x.rule(0, 0, 0, 2, 1, 0, 50 + n);
    for (int card = 0; card < 5; card++) x.worth(card, -1);
    x.raise(1000);
    edges.is("back()", x.back(), 3);
    int[][] stages = {{TOSS, 0, 3, 7}, {ASK, 0, 3, 7}, {ASK, 1, 2, 7}};
    for (int i = 0; i < 3; i++) for (int what = 0; what < 4; what++) edges.is("stage " + i, x.stageOf(i, what), stages[i][what]);
    for (int n = 0; n < 3; n++) edges.is("plan " + n, x.setOf(0, n, 3), 2 - n);
    edges.is("the plan of 1", x.setOf(1, 2, 3), 1);
    edges.is("no others", x.unplan(), 4);
    // The last way: 2, 2, 1.
    edges.are("rules", new int[] {x.ruleOf(0, 17), x.ruleOf(1, 17), x.ruleOf(2, 17), x.ruleOf(3, 17)}, 12, 0, 0, BAD);
    // The first: 0, 0, 0. And 0, 2, 0: 5 * (0 - 2) from 1 to 2, and 3 * 0 + 7 from 2 to 0.
    edges.are("rules", new int[] {x.ruleOf(0, 0), x.ruleOf(1, 0), x.ruleOf(2, 0)}, 0, 0, 0);
    edges.are("rules", new int[] {x.ruleOf(0, 4), x.ruleOf(1, 4), x.ruleOf(2, 4)}, 0, -10, 7);
    edges.are("who pays", new int[] {(int) x.pay(0, 4), (int) x.pay(1, 4), (int) x.pay(2, 4)}, 21, 30, -51);
    edges.are("who pays", new int[] {(int) x.pay(0, 17), (int) x.pay(1, 17), (int) x.pay(2, 17)}, -36, 36, 0);
    edges.is("the stake", x.count(4), 3);
    int[] worths = {0, 0, 4, BAD};
    for (int card = 0; card < 4; card++) edges.is("worth of card " + card, x.worth(card, 0), worths[card]);
  }

  private static void count() {
    edges.of(46, "0 CARDS, 1 STAGES, 2 PLANS that are told, 3 RULES, 4 STAKE. BAD.");
    for (int what : new int[] {-1, 5, LEAST, MOST}) edges.refusedLong(Scenes::busy, "count(" + what + ")", x -> x.count(what), BAD);
    long[] least = {3, 0, 0, 0, 1};
    long[] busy = {4, 5, 3, 3, 42};
    long[] most = {5, 6, 40, 8, -1L >>> 1};
    for (int what = 0; what < 5; what++) {
      edges.is("at first", new VeiledTable().count(what), least[what]);
      edges.is("of some", Scenes.busy().count(what), busy[what]);
      edges.is("at most", Scenes.full().count(what), most[what]);
    }
  }
}
