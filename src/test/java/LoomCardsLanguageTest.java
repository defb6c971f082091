import java.io.IOException;
import java.lang.reflect.Method;
import java.lang.reflect.Modifier;
import java.nio.file.Files;
import java.nio.file.Path;
import java.util.Arrays;
import java.util.List;
import java.util.Set;
import java.util.TreeSet;
import java.util.regex.Matcher;
import java.util.regex.Pattern;
import java.util.stream.Collectors;

/** The face of the class, and those rules of LANGUAGE.md that a reading of the source can tell. */
public final class LoomCardsLanguageTest {
  private static final String SOURCE = "src/main/java/LoomCards.java";
  private static final String FACE = """
      int card(int, int)
      int of(int, int)
      int punch(int, int, int)
      int at(int, int)
      int twin(int)
      int tie(int, int)
      int tied(int)
      int pick(int)
      int drop()
      int woven(int)
      int row(int)
      int law(int, int)
      int lawOf(int, int)
      int set(int, int)
      int force(int, boolean)
      int as(int, int)
      int broken()
      int floats(int)
      int ways()
      int sure(int, int)
      int fill(int)
      int ask()
      int orders(int)
      int lay(int, int)
      int repeat()
      int unlike()
      int tells()
      int thread(int, int)
      int feed(int, int)
      int wipe()
      int loom()
      int sheet(int, int, int)
      long write(int, int, long)
      int copy(int, int, int, int, int)
      int draw(int)
      int read(int)
      int whose(int, int)
      int nearest(int, int)
      int crossings(int)
      int mark(int)
      int order(int)
      int image()
      int undo()
      int tear()
      int count(int)
      int status(int)
      """;
  private static int wrong = 0;

  private static void must(boolean holds, String rule) {
    if (!holds) {
      wrong++;
      System.out.println("not so: " + rule);
    }
  }

  public static void main(String[] args) throws IOException {
    face();
    source(Files.readString(Path.of(SOURCE)));
    System.out.println(wrong == 0 ? "the face and the language are as due" : wrong + " rules are broken");
    if (wrong != 0) System.exit(1);
  }

  private static void face() {
    Class<?> c = LoomCards.class;
    must(Modifier.isFinal(c.getModifiers()) && Modifier.isPublic(c.getModifiers()), "public final class");
    must(c.getDeclaredConstructors().length == 1 && c.getConstructors().length == 1, "one constructor, public");
    Set<String> found = new TreeSet<>();
    Set<String> names = new TreeSet<>();
    for (Method m : c.getDeclaredMethods()) {
      if (Modifier.isPrivate(m.getModifiers())) continue;
      must(Modifier.isPublic(m.getModifiers()) && !Modifier.isStatic(m.getModifiers()), m + " is public");
      names.add(m.getName());
      found.add(m.getReturnType() + " " + m.getName() + "("
          + Arrays.stream(m.getParameterTypes()).map(Class::getName).collect(Collectors.joining(", ")) + ")");
    }
    must(found.equals(new TreeSet<>(List.of(FACE.strip().split("\n")))), "the methods of the document's face: " + found);
    for (var f : c.getDeclaredFields()) must(Modifier.isPrivate(f.getModifiers()), f + " is private");
    must(c.getDeclaredClasses().length <= 12, "twelve classes at most");
    noNameTwice(c, names);
    for (Class<?> inside : c.getDeclaredClasses()) {
      must(Modifier.isStatic(inside.getModifiers()), inside + " is static");
      noNameTwice(inside, names);
      must(inside.getDeclaredFields().length - constants(inside) <= 20, inside + " has twenty fields at most");
    }
  }

  private static int constants(Class<?> c) {
    return (int) Arrays.stream(c.getDeclaredFields()).filter(f -> Modifier.isStatic(f.getModifiers())).count();
  }

  private static void noNameTwice(Class<?> c, Set<String> names) {
    for (Method m : c.getDeclaredMethods()) {
      must(Modifier.isPublic(m.getModifiers()) || !names.contains(m.getName()), m + " has a name of the face");
      must(m.getParameterCount() <= 7, m + " has seven parameters at most");
    }
  }

  private static void source(String text) {
    String code = text.replaceAll("(?s)/\\*.*?\\*/", "").replaceAll("//[^\n]*", "")
        .replaceAll("\"[^\"]*\"", "\"\"");
    for (String word : List.of("throw", "throws", "try", "catch", "finally", "synchronized", "assert", "import",
        "package", "yield", "volatile", "native", "transient", "float", "double", "Object", "var")) {
      must(!Pattern.compile("\\b" + word + "\\b").matcher(code).find(), "no word " + word);
    }
    must(!code.contains("->") && !code.contains("::"), "no lambda, no method reference");
    must(code.chars().allMatch(ch -> ch < 128), "plain signs");
    Matcher library = Pattern.compile("\\b(Integer|Long|Math|System|Arrays|String)\\.(\\w+)").matcher(code);
    while (library.find()) {
      must(List.of("bitCount", "numberOfTrailingZeros", "min", "max", "arraycopy").contains(library.group(2)),
          library.group() + " is in the library's list");
    }
    for (String line : code.split("\n")) {
      String plain = line.strip();
      if (plain.matches(".*\\bnew\\b.*")) {
        must(plain.matches("(private )?final .* = new .*|sheets\\[s\\] = new Sheet\\(\\);"),
            "made in a constructor alone: " + plain);
      }
      if (plain.matches("(private )?static .*=.*;")) {
        must(plain.startsWith("private static final "), "static fields are final: " + plain);
      }
    }
    shortMethods(code.split("\n"));
  }

  /** A method of this file begins at a line that ends in ") {" with no word of flow ahead. */
  private static void shortMethods(String[] lines) {
    for (int i = 0; i < lines.length; i++) {
      if (!lines[i].matches("( {4}| {8})[\\w\\[\\] ]+\\([\\w\\[\\], ]*\\) \\{")) continue;
      String close = lines[i].replaceAll("\\S.*", "") + "}";
      int end = i;
      while (end < lines.length && !lines[end].equals(close)) end++;
      must(end - i < 60, "short: " + lines[i].strip());
    }
  }
}
