import java.io.IOException;
import java.lang.reflect.Constructor;
import java.lang.reflect.Field;
import java.lang.reflect.Method;
import java.lang.reflect.Modifier;
import java.nio.charset.StandardCharsets;
import java.nio.file.Files;
import java.nio.file.Path;
import java.util.ArrayList;
import java.util.List;
import java.util.Set;
import java.util.TreeSet;
import java.util.regex.Matcher;
import java.util.regex.Pattern;

/** The face is the document's, and nothing else of the class can be reached from outside. */
public final class FaceTest {
  private static final String[] FACE = {"int pack(int)", "int worth(int, int)", "int stage(int, int, int)", "int stageOf(int, int)",
    "int seen(int, int)", "int drop()", "int ways(int)", "int happened(int, int)", "long chance(int, int)", "int view(int, int, int)",
    "int worlds(int, int, int)", "int world(int, int, int, int)", "long odds(int, int, int, int, int, int)", "int sets(int)",
    "int setOf(int, int, int)", "int recalls(int)", "int plan(int, int, int, int)", "int lot(int)", "int unplan()",
    "int rule(int, int, int, int, int, int, int)", "int ruleOf(int, int)", "int unrule()", "long pay(int, int)", "long mean(int, int)",
    "long reply(int, int)", "int better(int)", "int settled()", "int raise(long)", "int feed(int, int)", "int text()", "int rack(int, int)",
    "int lay(int, int, int)", "int build(int)", "int maybe(int, int, int, int, int)", "int sheet(int, int, int)", "int cell(int, int, int)",
    "int read(int, int)", "int loadPlans(int, int)", "int hold(int, int, long)", "int asStage(int, int)", "int asAmount(int, int)",
    "int asView(int, int, int)", "int image()", "int back()", "long count(int)"};
  private static final String[] CONSTANTS = {"int NONE -1", "int BAD -2", "int STATE -3", "int FULL -4", "int MUCH -5", "int NOTHING -11",
    "int PLACE -12", "int KIND -13", "int SIZE -14", "long NO -4611686018427387904"};
  private static final int MOST_CLASSES = 12;
  private static final int MOST_FIELDS = 20;
  private static final Due due = new Due();

  public static void main(String[] args) throws IllegalAccessException, IOException {
    Class<?> face = VeiledTable.class;
    due.part("face");
    due.isSo("it is public and final", Modifier.isPublic(face.getModifiers()) && Modifier.isFinal(face.getModifiers()));
    due.isSo("it extends nothing", face.getSuperclass() == Object.class && face.getInterfaces().length == 0);
    methods(face);
    constants(face);
    Constructor<?>[] made = face.getDeclaredConstructors();
    due.isSo("one public constructor of nothing", made.length == 1 && Modifier.isPublic(made[0].getModifiers()) && made[0].getParameterCount() == 0);
    List<Class<?>> inside = new ArrayList<>(List.of(face.getDeclaredClasses()));
    due.isSo("some twelve classes", inside.size() < MOST_CLASSES);
    for (Class<?> c : inside) {
      due.isSo(c + " is static and hidden", Modifier.isStatic(c.getModifiers()) && !Modifier.isPublic(c.getModifiers()) && !Modifier.isProtected(c.getModifiers()));
    }
    inside.add(face);
    for (Class<?> c : inside) sizes(c);
    String document = Files.readString(Path.of("../shared/DOC.md"), StandardCharsets.UTF_8);
    String source = Files.readString(Path.of("src/main/java/VeiledTable.java"), StandardCharsets.UTF_8);
    inTheDocumentsOrder(document, source);
    wordsAheadOfGroups(document, source);
    due.end("FaceTest");
  }

  /** Constants, and calls with the names of their arguments, in the document's order. */
  private static void inTheDocumentsOrder(String document, String source) {
    Matcher block = Pattern.compile("```java\n(.*?)\n```", Pattern.DOTALL).matcher(document);
    due.isSo("the document tells the face", block.find());
    int at = 0;
    int lines = 0;
    for (String line : block.group(1).split("\n")) {
      if (line.equals("}")) continue;
      String wanted = line.trim().replaceAll("\\);$", ") {");
      int found = source.indexOf(wanted, at);
      due.isSo("the source has, behind those ahead: " + wanted, found >= at);
      at = Math.max(at, found);
      lines++;
    }
    // The head of the class, two lines of constants, the constructor.
    due.is("lines of the face", lines, FACE.length + 4);
  }

  private static void wordsAheadOfGroups(String document, String source) {
    Matcher groups = Pattern.compile("Ahead of the calls `(\\w+)`[^\n]* the interface says: (---- [^\n]*)\\.").matcher(document);
    int many = 0;
    while (groups.find()) {
      Pattern wanted = Pattern.compile("  // " + Pattern.quote(groups.group(2)) + "\n\n  public \\w+ " + groups.group(1) + "\\(");
      due.isSo("ahead of " + groups.group(1) + " it says " + groups.group(2), wanted.matcher(source).find());
      many++;
    }
    due.is("groups of calls", many, 6);
  }

  private static void methods(Class<?> face) {
    Set<String> wanted = new TreeSet<>(List.of(FACE));
    Set<String> there = new TreeSet<>();
    Set<String> open = new TreeSet<>();
    for (String method : FACE) open.add(method.substring(method.indexOf(' ') + 1, method.indexOf('(')));
    for (Method m : face.getDeclaredMethods()) {
      if (m.isSynthetic()) continue;
      if (Modifier.isPublic(m.getModifiers())) there.add(told(m));
      else due.isSo(m + " is private and has a name of its own", Modifier.isPrivate(m.getModifiers()) && !open.contains(m.getName()));
      due.isSo(m + " throws nothing", m.getExceptionTypes().length == 0);
    }
    due.isSo("all methods of the document and no others: " + there, there.equals(wanted));
    for (Class<?> c : face.getDeclaredClasses()) {
      for (Method m : c.getDeclaredMethods()) due.isSo(c + ": " + m + " has a name of its own", !open.contains(m.getName()));
    }
  }

  private static String told(Method m) {
    StringBuilder told = new StringBuilder(m.getReturnType() + " " + m.getName() + "(");
    for (Class<?> p : m.getParameterTypes()) told.append(told.charAt(told.length() - 1) == '(' ? "" : ", ").append(p);
    return told.append(')').toString() + (Modifier.isStatic(m.getModifiers()) ? " static" : "");
  }

  private static void constants(Class<?> face) throws IllegalAccessException {
    Set<String> there = new TreeSet<>();
    for (Field f : face.getDeclaredFields()) {
      int m = f.getModifiers();
      if (Modifier.isPublic(m)) there.add(f.getType() + " " + f.getName() + " " + (Modifier.isStatic(m) && Modifier.isFinal(m) ? f.get(null) : "no constant"));
      else due.isSo(f + " is private", Modifier.isPrivate(m));
      if (Modifier.isStatic(m)) due.isSo(f + " is final", Modifier.isFinal(m));
    }
    due.isSo("all constants of the document and no others: " + there, there.equals(new TreeSet<>(List.of(CONSTANTS))));
  }

  private static void sizes(Class<?> c) {
    int fields = 0;
    for (Field f : c.getDeclaredFields()) {
      if (!Modifier.isStatic(f.getModifiers())) fields++;
      else due.isSo(f + " is final", Modifier.isFinal(f.getModifiers()));
    }
    due.isSo(c + " has some twenty fields at most", fields <= MOST_FIELDS);
    for (Method m : c.getDeclaredMethods()) due.isSo(m + " takes seven parameters at most", m.getParameterCount() <= 7);
    for (Constructor<?> m : c.getDeclaredConstructors()) due.isSo(m + " takes seven parameters at most", c.isEnum() || m.getParameterCount() <= 7);
  }
}
