import java.nio.file.Files;
import java.nio.file.Path;
import java.util.List;
import java.util.regex.Matcher;
import java.util.regex.Pattern;
import java.util.stream.Stream;
import javax.tools.JavaCompiler;
import javax.tools.ToolProvider;

/** Whether README.md tells the class and its tests as they stand: ReadmeTests README FOLDER_OF_TESTS FOLDER_OF_CLASSES. */
public final class ReadmeTests extends Kit {
  private static final Pattern CALL = Pattern.compile("(x\\.\\w+\\(.*\\)); +// (-?\\d+).*");

  /** What the example calls for each line with an answer behind it; it is public for the class made from the page. */
  public static void answered(String call, int got, int want) {
    due(call, got, want);
  }

  /** The page's blocks of Java, one behind the other, as a program. */
  private static String program(List<String> page) {
    StringBuilder body = new StringBuilder("public final class ReadmeExample {\n  public static void main(String[] args) {\n");
    boolean inside = false;
    for (String line : page) {
      if (line.startsWith("```")) {
        inside = line.equals("```java");
      } else if (inside) {
        Matcher m = CALL.matcher(line);
        body.append(m.matches() ? "ReadmeTests.answered(\"" + m.group(1) + "\", " + m.group(1) + ", " + m.group(2) + ");" : line);
        body.append('\n');
      }
    }
    return body.append("  }\n}\n").toString();
  }

  private static void runExample(String program, Path classes) throws Exception {
    Path file = classes.resolve("ReadmeExample.java");
    Files.writeString(file, program);
    JavaCompiler javac = ToolProvider.getSystemJavaCompiler();
    if (javac == null) throw new IllegalStateException("no compiler: a JDK is needed");
    due("the example compiles", javac.run(null, null, null, "-cp", classes.toString(), "-d", classes.toString(), file.toString()), 0);
    int before = passed + failed;
    Class.forName("ReadmeExample").getMethod("main", String[].class).invoke(null, (Object) new String[0]);
    due("calls with their answers, thirty at least", passed + failed - before >= 30 ? 1 : 0, 1);
  }

  public static void main(String[] args) throws Exception {
    List<String> page = Files.readAllLines(Path.of(args[0]));
    String whole = String.join("\n", page);
    runExample(program(page), Path.of(args[2]));
    try (Stream<Path> files = Files.list(Path.of(args[1]))) {
      for (Path file : files.sorted().toList()) {
        due("README.md names " + file.getFileName(), whole.contains("`tests/" + file.getFileName()) ? 1 : 0, 1);
      }
    }
    Matcher named = Pattern.compile("`tests/(\\w+\\.java)").matcher(whole);
    while (named.find()) due(named.group(1) + " is there", Files.exists(Path.of(args[1], named.group(1))) ? 1 : 0, 1);
    due("README.md says how all tests are run", whole.contains("\n    bash .ci/run\n") ? 1 : 0, 1);
    finish("readme");
  }
}
