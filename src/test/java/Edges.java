import java.io.IOException;
import java.nio.charset.StandardCharsets;
import java.nio.file.Files;
import java.nio.file.Path;
import java.util.HashMap;
import java.util.HashSet;
import java.util.Map;
import java.util.Set;
import java.util.regex.Matcher;
import java.util.regex.Pattern;

/**
 * What the tests of edges share. Each test tells the words of the document that it is for, which must stand there under
 * the promise it names; of a call that is refused, and of one that asks, it is looked whether all is as it was.
 */
final class Edges {
  static final int TERMS = 0;
  static final long NO = VeiledTable.NO;
  private static final String DOCUMENT = "../shared/DOC.md";
  // A refusal stands at the start of a sentence, or behind ";": elsewhere STATE, KIND and the like are ordinary words.
  private static final Pattern REFUSAL = Pattern.compile("(?:: |[.;] )(NONE|BAD|STATE|FULL|MUCH|NOTHING|PLACE|KIND|SIZE)\\b");
  private static final Map<String, Integer> CODES = Map.of("NONE", -1, "BAD", -2, "STATE", -3, "FULL", -4, "MUCH", -5,
      "NOTHING", -11, "PLACE", -12, "KIND", -13, "SIZE", -14);

  interface Scene {
    VeiledTable made();
  }

  interface Call {
    long on(VeiledTable x);
  }

  private final Due due = new Due();
  private final Map<Integer, String> document = new HashMap<>();
  private final Set<String> refusals = new HashSet<>();
  private final Set<Integer> touched = new HashSet<>();
  private int promise = TERMS;

  Edges() throws IOException {
    Pattern head = Pattern.compile("(Terms|Promise (\\d+):)");
    for (String part : Files.readString(Path.of(DOCUMENT), StandardCharsets.UTF_8).split("\n## ")) {
      Matcher m = head.matcher(part);
      if (m.lookingAt()) document.put(m.group(2) == null ? TERMS : Integer.parseInt(m.group(2)), part.replaceAll("\\s+", " "));
    }
  }

  /** From here on the test is of these words, under this promise, or under "Terms". */
  void of(int number, String words) {
    promise = number;
    touched.add(number);
    due.part((number == TERMS ? "Terms" : "promise " + number) + ", \"" + words + "\"");
    due.isSo("the document says so", document.getOrDefault(number, "").contains(words));
  }

  void is(String call, long got, long want) {
    due.is(call, got, want);
  }

  void are(String calls, int[] got, int... want) {
    due.is(calls + ": how many", got.length, want.length);
    for (int n = 0; n < got.length && n < want.length; n++) due.is(calls + ": number " + n, got[n], want[n]);
  }

  /** A call that answers an int: the refusal alone. */
  void refused(Scene scene, String call, Call asked, int code) {
    refusals.add(promise + " " + code);
    leaves(scene, call, asked, code);
  }

  /** A call that answers a long: NO and the refusal. */
  void refusedLong(Scene scene, String call, Call asked, int code) {
    refusals.add(promise + " " + code);
    leaves(scene, call, asked, NO + code);
  }

  /** A refusal that the document lets change something: the test itself looks at what. */
  void refusedBut(String call, long got, int code) {
    refusals.add(promise + " " + code);
    due.is(call, got, code);
  }

  /** The call answers so, and leaves all as it was. */
  void leaves(Scene scene, String call, Call asked, long want) {
    VeiledTable x = scene.made();
    due.is(call, asked.on(x), want);
    String before = Picture.of(scene.made());
    String after = Picture.of(x);
    if (!before.equals(after)) System.out.println(call + " changed" + firstChange(before, after));
    due.isSo(call + " changes nothing", before.equals(after));
  }

  private static String firstChange(String before, String after) {
    String[] old = before.split("\n");
    String[] now = after.split("\n");
    int n = 0;
    while (n < old.length && n < now.length && old[n].equals(now[n])) n++;
    return " \"" + (n < old.length ? old[n] : "") + "\" to \"" + (n < now.length ? now[n] : "") + "\"";
  }

  /** Whether every promise from first to last was looked at, and every refusal that the document names in it. */
  void end(String name, int first, int last) {
    due.part(name);
    for (int number = first; number <= last; number++) {
      due.isSo("an edge of promise " + number, touched.contains(number));
      Matcher m = REFUSAL.matcher(document.getOrDefault(number, ""));
      while (m.find()) due.isSo("promise " + number + " is refused with " + m.group(1), refusals.contains(number + " " + CODES.get(m.group(1))));
    }
    due.end(name);
  }
}
