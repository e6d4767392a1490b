import java.nio.charset.StandardCharsets;
import java.nio.file.Files;
import java.nio.file.Path;
import java.util.regex.Matcher;
import java.util.regex.Pattern;

/** Those rules of LANGUAGE.md that a look at the source's words can tell. It is run from the project's root. */
public final class LanguageTest {
  private static final String[][] FORBIDDEN = {
      {"1", "\\b(package|protected)\\b"},
      {"2", "->|::"},
      {"3", "\\[\\s*\\]\\s*\\[\\s*\\]\\s*\\["},
      {"4", "\\b(import|java\\.|javax\\.|Object|Exception|Collections|HashMap|Random|Thread)\\b"},
      {"4", "\\w+Exact\\b"},
      {"5", "\\bstatic\\s*\\{"},
      {"5", "\\bstatic\\s+(?!final|class|int|boolean|char|long|String|abstract|record)"},
      {"6", "\\b(throw|throws|try|catch|finally|synchronized|assert|volatile|transient|native)\\b"},
      {"6", "\\b(equals|hashCode|toString)\\s*\\([^)]*\\)\\s*\\{"},
      {"9", "while\\s*\\(\\s*true|for\\s*\\(\\s*;"},
      {"10", "\"\\s*\\+|\\+\\s*\""},
      {"13", "\\b(System\\.(?!arraycopy)\\w+|nanoTime|currentTimeMillis|getenv)\\b"},
  };

  private static int wrong = 0;

  private static void fault(String rule, String what) {
    wrong++;
    System.out.println("rule " + rule + ": " + what);
  }

  private static String withoutCommentsAndTexts(String source) {
    String plain = source.replaceAll("(?s)/\\*.*?\\*/", " ").replaceAll("//[^\n]*", " ");
    return plain.replaceAll("\"(\\\\.|[^\"\\\\])*\"", "\"\"").replaceAll("'(\\\\.|[^'\\\\])'", "' '");
  }

  private static void methodsAreShort(String source) {
    Pattern start = Pattern.compile("^( +)[\\w\\[\\]. ]+\\([^;]*\\) \\{$");
    String[] lines = source.split("\n");
    for (int i = 0; i < lines.length; i++) {
      Matcher m = start.matcher(lines[i]);
      if (!m.matches() || lines[i].trim().matches("(if|for|while|switch|else|do)\\b.*")) continue;
      int end = i;
      while (!lines[end].equals(m.group(1) + "}")) end++;
      if (end - i + 1 > 60) fault("11", "more than 60 lines: " + lines[i].trim());
      if (lines[i].chars().filter(c -> c == ',').count() > 6) fault("11", "more than seven parameters: " + lines[i].trim());
    }
  }

  public static void main(String[] args) throws Exception {
    byte[] bytes = Files.readAllBytes(Path.of("src/main/java/MeanLocks.java"));
    for (byte b : bytes) if (b != '\n' && (b < 32 || b > 126)) fault("3", "a sign that is not 32 to 126");
    String source = new String(bytes, StandardCharsets.ISO_8859_1);
    String plain = withoutCommentsAndTexts(source);
    for (String[] rule : FORBIDDEN) {
      Matcher m = Pattern.compile(rule[1]).matcher(plain);
      while (m.find()) fault(rule[0], "'" + m.group() + "'");
    }
    Matcher classes = Pattern.compile("\\b(class|record|enum|interface) \\w+").matcher(plain);
    int many = 0;
    while (classes.find()) many++;
    if (many > 12) fault("11", many + " classes");
    methodsAreShort(source);
    System.out.println(wrong == 0 ? "the words of the source keep to the language" : "failed");
    if (wrong != 0) System.exit(1);
  }
}
