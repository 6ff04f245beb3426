import java.io.IOException;
import java.nio.charset.StandardCharsets;
import java.nio.file.Files;
import java.nio.file.Path;
import java.util.regex.Matcher;
import java.util.regex.Pattern;

/** The source keeps to what can be seen of LANGUAGE.md in its words. .ci/run starts it in the project's folder. */
public final class LanguageTest {
  private static final int MOST_LINES = 60;
  private static final String[] NOT_THERE = {
    "\\bimport\\b", "\\bpackage\\b", "->", "::", "\\bsynchronized\\b", "\\bassert\\b", "\\bvolatile\\b", "\\btransient\\b", "\\bnative\\b",
    "\\bfinally\\b", "\\bcatch\\b", "\\btry\\b", "\\bthrow\\b", "\\bthrows\\b", "\\bExact\\b", "Exact\\(", "\\bvar\\b", "\\byield\\b",
    "\\bObject\\b", "\\bThread\\b", "\\bRuntime\\b", "\\bRandom\\b", "\\bfloat\\b", "\\bdouble\\b", "\\bordinal\\b", "\\bvalueOf\\b",
    "\\bhashCode\\b", "\\bequals\\b", "\\btoString\\b", "\\bgetClass\\b", "\\bprotected\\b", "@", "\\bLong\\.", "\\bInteger\\.", "\\bArrays\\.",
    "\\bSystem\\.", "\\bStringBuilder\\b", "\\bfor \\([^;]*:"};

  public static void main(String[] args) throws IOException {
    Due due = new Due();
    due.part("language");
    String source = Files.readString(Path.of("src/main/java/VeiledTable.java"), StandardCharsets.US_ASCII);
    String code = source.replaceAll("(?s)/\\*.*?\\*/", " ").replaceAll("//[^\n]*", "").replaceAll("\"[^\"\n]*\"", "\"\"");
    for (String word : NOT_THERE) due.isSo("no " + word, !Pattern.compile(word).matcher(code).find());
    Matcher maths = Pattern.compile("Math\\.(\\w+)").matcher(code);
    while (maths.find()) due.isSo("Math." + maths.group(1), maths.group(1).matches("max|min|abs"));
    due.isSo("no texts are joined by +", !Pattern.compile("\"\\s*\\+|\\+\\s*\"").matcher(code).find());
    Matcher statics = Pattern.compile("\\bstatic ([^;{=(]*)[;=]").matcher(code);
    while (statics.find()) due.isSo("static " + statics.group(1) + "is final", statics.group(1).startsWith("final ") || statics.group(1).contains(" final "));
    due.isSo("values() is kept once", code.split("values\\(\\)", -1).length == 2);
    methodsAreShort(due, source);
    due.end("LanguageTest");
  }

  private static void methodsAreShort(Due due, String source) {
    String[] lines = source.split("\n");
    Pattern head = Pattern.compile("( ++)(?!return|else|if|for|while|switch|do\\b|private static final class|private enum|public final class)[\\w\\[\\] ]+\\([^;]*\\) \\{");
    for (int n = 0; n < lines.length; n++) {
      Matcher m = head.matcher(lines[n]);
      if (!m.matches()) continue;
      int end = n;
      while (end < lines.length - 1 && !lines[end].equals(m.group(1) + "}")) end++;
      due.isSo("some sixty lines at most: " + lines[n].trim(), end - n < MOST_LINES);
    }
  }
}
