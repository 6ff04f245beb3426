import java.io.IOException;
import java.lang.reflect.Method;
import java.lang.reflect.Modifier;
import java.nio.charset.StandardCharsets;
import java.nio.file.Files;
import java.nio.file.Path;
import java.util.ArrayList;
import java.util.HashMap;
import java.util.List;
import java.util.Map;
import java.util.regex.Matcher;
import java.util.regex.Pattern;

/** The calls of README.md, in its order on one object, answer what it says behind them. */
public final class ReadmeTest {
  private static final String MADE = "    VeiledTable x = new VeiledTable();";
  private static final Pattern CALL = Pattern.compile("    x\\.(\\w+)\\(([^)]*)\\); +// (-?\\d+)\\b.*");
  private static final Due due = new Due();

  public static void main(String[] args) throws IOException, ReflectiveOperationException {
    due.part("README.md");
    Map<String, Method> face = new HashMap<>();
    for (Method m : VeiledTable.class.getDeclaredMethods()) {
      if (Modifier.isPublic(m.getModifiers())) face.put(m.getName(), m);
    }
    String page = Files.readString(Path.of("README.md"), StandardCharsets.UTF_8);
    run(page, face);
    for (String name : face.keySet()) {
      due.isSo(name + " is told of", Pattern.compile("\\bx\\." + name + "\\(|`" + name + "`").matcher(page).find());
    }
    for (String test : tests()) due.isSo(test + " is told of", page.contains("`" + test + "`"));
    due.end("ReadmeTest");
  }

  private static void run(String page, Map<String, Method> face) throws ReflectiveOperationException {
    VeiledTable x = null;
    int calls = 0;
    for (String line : page.split("\n")) {
      if (line.equals(MADE)) x = new VeiledTable();
      if (!line.startsWith("    x.")) continue;
      Matcher m = CALL.matcher(line);
      boolean isTold = m.matches() && face.containsKey(m.group(1));
      due.isSo("a call, and what it answers:" + line, isTold);
      if (!isTold) continue;
      due.is(line.trim(), answer(x, face.get(m.group(1)), m.group(2)), Long.parseLong(m.group(3)));
      calls++;
    }
    due.isSo("calls that an object is good for: " + calls, calls > 0 && calls <= 512);
  }

  private static long answer(VeiledTable x, Method call, String told) throws ReflectiveOperationException {
    String[] words = told.isEmpty() ? new String[0] : told.split(", ");
    Object[] given = new Object[words.length];
    for (int n = 0; n < words.length; n++) {
      boolean isLong = n < call.getParameterCount() && call.getParameterTypes()[n] == long.class;
      given[n] = isLong ? (Object) Long.decode(words[n]) : (Object) Integer.decode(words[n]);
    }
    return ((Number) call.invoke(x, given)).longValue();
  }

  private static List<String> tests() throws IOException {
    List<String> names = new ArrayList<>();
    try (var files = Files.list(Path.of("src/test/java"))) {
      files.forEach(file -> names.add(file.getFileName().toString().replace(".java", "")));
    }
    return names;
  }
}
