import java.io.File;
import java.net.URL;
import java.net.URLClassLoader;
import java.nio.file.Files;
import java.nio.file.Path;
import java.util.List;
import java.util.regex.Matcher;
import java.util.regex.Pattern;
import javax.tools.ToolProvider;

/**
 * The rows of README.md answer what stands beside them. Its Java is compiled as it stands, each part a method of its own;
 * a row "call; // answer: why" is compared. It is run from the project's root.
 */
public final class ReadmeTest {
  private static final Pattern PART = Pattern.compile("```java\n(.*?)```", Pattern.DOTALL);
  private static final Pattern ROW = Pattern.compile("(locks\\..*);\\s*// (-?\\d+|[A-Z_]+)(:.*)?");
  private static final Pattern CALL = Pattern.compile("`(\\w+)\\(\\)`|locks\\.(\\w+)\\(");

  // Beside the rows, as these are loaded apart from Check.
  private static final String DUE = "static final StringBuilder wrong = new StringBuilder();\n"
      + "static void due(int want, int got, String call) {\n"
      + "if (want != got) wrong.append(call).append(\" answered \").append(got).append(\"; \");\n}\n";

  private static int rows = 0;

  private static String row(String line) {
    Matcher m = ROW.matcher(line);
    if (!m.matches()) {
      if (line.startsWith("locks.")) throw new IllegalStateException("no answer beside " + line);
      return line;
    }
    rows++;
    String answer = m.group(2).matches("[A-Z_]+") ? "MeanLocks." + m.group(2) : m.group(2);
    return "due(" + answer + ", " + m.group(1) + ", \"" + m.group(1).replace("\"", "'") + "\");";
  }

  private static String source(String readme) {
    StringBuilder parts = new StringBuilder();
    StringBuilder calls = new StringBuilder();
    Matcher m = PART.matcher(readme);
    for (int part = 1; m.find(); part++) {
      boolean method = m.group(1).startsWith("static ");
      if (!method) {
        calls.append("part").append(part).append("();\n");
        parts.append("static void part").append(part).append("() {\n");
      }
      for (String line : m.group(1).split("\n")) parts.append(row(line)).append('\n');
      if (!method) parts.append("}\n");
    }
    calls.append("return wrong.toString();\n");
    return "public final class ReadmeRows {\n" + DUE + parts + "public static String run() {\n" + calls + "}\n}\n";
  }

  private static void everyCallIsTold(String readme) {
    for (var method : MeanLocks.class.getMethods()) {
      if (method.getDeclaringClass() != MeanLocks.class) continue;
      Matcher m = CALL.matcher(readme);
      boolean told = false;
      while (m.find()) told |= method.getName().equals(m.group(1) == null ? m.group(2) : m.group(1));
      Check.due(1, told ? 1 : 0);
      if (!told) System.out.println("README.md does not tell of " + method.getName() + "()");
    }
  }

  private static void everyTestIsTold(String readme) {
    for (File file : new File("src/test/java").listFiles()) {
      String name = file.getName().replace(".java", "");
      Check.due(1, readme.contains("`" + name + "`") ? 1 : 0);
      if (!readme.contains("`" + name + "`")) System.out.println("README.md does not tell of " + name);
    }
  }

  public static void main(String[] args) throws Exception {
    String readme = Files.readString(Path.of("README.md"));
    Path built = Files.createTempDirectory("readme");
    Path file = built.resolve("ReadmeRows.java");
    Path made = built.resolve("ReadmeRows.class");
    try {
      Files.writeString(file, source(readme));
      List<String> options = List.of("-d", built.toString(), "-cp", System.getProperty("java.class.path"), file.toString());
      Check.sentence("README.md compiles");
      Check.due(0, ToolProvider.getSystemJavaCompiler().run(null, null, null, options.toArray(new String[0])));
      if (Files.exists(made)) {
        try (URLClassLoader loader = new URLClassLoader(new URL[] {built.toUri().toURL()})) {
          Check.sentence("README.md answers");
          Check.same("", (String) loader.loadClass("ReadmeRows").getMethod("run").invoke(null));
        }
      }
    } finally {
      for (Path path : new Path[] {made, file, built}) Files.deleteIfExists(path);
    }
    Check.sentence("README.md tells of everything");
    Check.due(1, rows > 0 ? 1 : 0);
    everyCallIsTold(readme);
    everyTestIsTold(readme);
    Check.end("all " + rows + " rows of README.md answer what stands beside them");
  }
}
