import java.io.IOException;
import java.lang.reflect.Method;
import java.lang.reflect.Modifier;
import java.net.URL;
import java.net.URLClassLoader;
import java.nio.file.Files;
import java.nio.file.Path;
import java.util.Comparator;
import java.util.List;
import java.util.regex.Matcher;
import java.util.regex.Pattern;
import java.util.stream.Stream;

/**
 * README.md against the class: its Java lines are compiled and run as one program, where a call with
 * a number behind it ("// 3: ..") must answer that number; and it names each call and each finding.
 */
public final class LoomCardsReadmeTest {
  private static final Pattern BLOCK = Pattern.compile("(?s)```java\n(.*?)```");
  private static final Pattern ANSWERED = Pattern.compile("(x\\.\\w+\\(.*\\));\\s*// (-?\\d+)\\b.*");
  private static final List<String> FINDINGS =
      List.of("BEYOND", "FULL", "KIND", "NONE", "STATE", "MISSING", "SIZE");
  public static int asked = 0;
  public static int wrong = 0;

  public static void main(String[] args) throws Exception {
    String readme = Files.readString(Path.of("README.md"));
    names(readme);
    Path out = Files.createTempDirectory("readme");
    try {
      run(example(readme), out);
    } finally {
      remove(out);
    }
    must(asked > 0, "README.md has calls with their answers");
    System.out.println(asked + " answers of README.md asked, " + wrong + " are not as due");
    if (wrong != 0) System.exit(1);
  }

  /** For the program that is made from README.md. */
  public static int due(String call, long got, long want) {
    asked++;
    must(got == want, call + " answers " + want + ", not " + got);
    return (int) got;
  }

  private static void must(boolean holds, String what) {
    if (!holds) {
      wrong++;
      System.out.println("not so: " + what);
    }
  }

  private static void names(String readme) {
    for (Method m : LoomCards.class.getDeclaredMethods()) {
      if (Modifier.isPublic(m.getModifiers())) {
        must(readme.contains("`" + m.getName() + "`"), "README.md names " + m.getName());
      }
    }
    for (int f = 0; f < FINDINGS.size(); f++) {
      String line = "| " + (-1000000001 - f) + " | " + FINDINGS.get(f) + " |";
      must(readme.contains(line), "README.md has the line " + line);
    }
    must(readme.contains("512 calls"), "README.md tells the bound on calls");
    must(readme.contains(".ci/run"), "README.md tells how to run the tests");
    try (Stream<Path> tests = Files.list(Path.of("src/test/java"))) {
      tests.map(test -> test.getFileName().toString().replace(".java", "")).filter(name -> name.endsWith("Test"))
          .forEach(name -> must(readme.contains("| `" + name + "` |"), "README.md names the test " + name));
    } catch (IOException e) {
      must(false, "the tests can be listed: " + e);
    }
  }

  private static String example(String readme) {
    StringBuilder lines = new StringBuilder();
    Matcher block = BLOCK.matcher(readme);
    while (block.find()) {
      for (String line : block.group(1).split("\n")) {
        Matcher answered = ANSWERED.matcher(line);
        lines.append(answered.find() ? asDue(line, answered) : line).append('\n');
      }
    }
    return "public final class Example {\n  public static void main(String[] args) {\n" + lines + "  }\n}\n";
  }

  private static String asDue(String line, Matcher answered) {
    String call = answered.group(1);
    String said = call.replace("\\", "\\\\").replace("\"", "\\\"");
    return line.substring(0, answered.start())
        + "LoomCardsReadmeTest.due(\"" + said + "\", " + call + ", " + answered.group(2) + "L);";
  }

  private static void run(String program, Path out) throws Exception {
    Path source = Files.writeString(out.resolve("Example.java"), program);
    boolean isCompiled = new ProcessBuilder("javac", "-cp", System.getProperty("java.class.path"),
        "-d", out.toString(), source.toString()).inheritIO().start().waitFor() == 0;
    must(isCompiled, "the Java lines of README.md compile");
    if (!isCompiled) return;
    try (URLClassLoader loader = new URLClassLoader(new URL[] {out.toUri().toURL()})) {
      loader.loadClass("Example").getMethod("main", String[].class).invoke(null, (Object) new String[0]);
    }
  }

  private static void remove(Path out) throws IOException {
    try (Stream<Path> files = Files.walk(out)) {
      for (Path file : files.sorted(Comparator.reverseOrder()).toList()) Files.delete(file);
    }
  }
}
