import java.io.IOException;
import java.lang.reflect.InvocationTargetException;
import java.lang.reflect.Method;
import java.nio.file.Files;
import java.nio.file.Path;
import java.util.ArrayList;
import java.util.Arrays;
import java.util.BitSet;
import java.util.Comparator;
import java.util.List;
import java.util.regex.Matcher;
import java.util.regex.Pattern;

/**
 * One test for each sentence of the document that names a boundary: each has the sentence's own
 * words, which must be found in the document; and no sentence may be without a test.
 */
public final class LoomCardsSentencesTest {
  private static final Path DOCUMENT = Path.of("../shared/DOC.md");
  private static final int PROMISES = 47;
  private static final List<Class<?>> TESTS = List.of(TermSentences.class, RefusedSentences.class,
      CardSentences.class, OrderSentences.class, LawSentences.class, EatenSentences.class, OrdersSentences.class,
      TextSentences.class, SheetSentences.class, ImageSentences.class);
  /** No call has a quotient, so none can tell how it is cut. */
  private static final List<String> UNTESTED = List.of("Quotients are cut.");

  public static void main(String[] args) throws IOException, IllegalAccessException {
    List<Method> tests = tests();
    for (Method test : tests) run(test);
    if (Files.isReadable(DOCUMENT)) askDocument(tests, Files.readString(DOCUMENT));
    System.out.println(tests.size() + " sentences, " + Sentences.asked + " answers asked, " + Sentences.wrong
        + " are not as due");
    if (Sentences.wrong != 0) System.exit(1);
  }

  private static List<Method> tests() {
    List<Method> tests = new ArrayList<>();
    for (Class<?> c : TESTS) {
      Arrays.stream(c.getDeclaredMethods()).filter(m -> m.isAnnotationPresent(Says.class))
          .sorted(Comparator.comparing(Method::getName)).forEach(tests::add);
    }
    return tests;
  }

  private static void run(Method test) throws IllegalAccessException {
    Says says = test.getAnnotation(Says.class);
    Sentences.test = test.getName() + " (promise " + says.promise() + ": \"" + says.text() + "\")";
    int asked = Sentences.asked;
    try {
      test.invoke(null);
    } catch (InvocationTargetException e) {
      wrong("threw " + e.getCause());
    }
    if (Sentences.asked == asked) wrong("asked nothing");
  }

  private static void wrong(String what) {
    Sentences.wrong++;
    System.out.println(Sentences.test + "\n  " + what);
  }

  // ---- the document

  private static void askDocument(List<Method> tests, String document) {
    for (int promise = 0; promise <= PROMISES; promise++) {
      String section = section(document, promise);
      BitSet quoted = new BitSet();
      for (Method test : tests) {
        Says says = test.getAnnotation(Says.class);
        if (says.promise() != promise) continue;
        Sentences.test = test.getName() + " (promise " + promise + ")";
        if (!section.contains(says.text())) wrong("the document does not say \"" + says.text() + "\"");
        for (int at = section.indexOf(says.text()); at >= 0; at = section.indexOf(says.text(), at + 1)) {
          quoted.set(at, at + says.text().length());
        }
      }
      Sentences.test = "promise " + promise;
      askSentences(section, quoted);
      askFindings(section, quoted);
    }
  }

  /** The words of a promise behind its call; of 0 what stands from "What it is" to the end of the terms. */
  private static String section(String document, int promise) {
    String from = promise == 0 ? "An object is used" : "## Promise " + promise + ":";
    String to = promise == 0 ? "Ahead of the calls" : "## ";
    int begin = document.indexOf(from);
    int end = document.indexOf(to, begin + from.length());
    String words = document.substring(begin, end < 0 ? document.length() : end);
    if (promise > 0) return words.substring(words.indexOf("`: ") + 3).replaceAll("\\s+", " ").strip();
    String terms = words.substring(words.indexOf("## Terms") + 8);
    String use = words.substring(0, words.indexOf("## The public face"));
    return (use + terms).replaceAll("```(text)?", " ").replaceAll("\\s+", " ").strip();
  }

  private static void askSentences(String section, BitSet quoted) {
    Matcher sentence = Pattern.compile("\\S.*?[.](?=\\)? [A-Z1-9]|\\)?$)").matcher(section);
    while (sentence.find()) {
      boolean isQuoted = quoted.get(sentence.start(), sentence.end()).cardinality() > 0;
      if (!isQuoted && !UNTESTED.contains(sentence.group()) && !sentence.group().matches("[1-3][.]")) {
        wrong("no test for \"" + sentence.group() + "\"");
      }
    }
  }

  /** In a promise each finding has a test, not only each sentence. */
  private static void askFindings(String section, BitSet quoted) {
    Matcher finding = Pattern.compile("\\b(BEYOND|FULL|KIND|NONE|STATE|MISSING|SIZE)\\b").matcher(section);
    while (finding.find()) {
      if (!quoted.get(finding.start())) {
        String ahead = section.substring(0, finding.end());
        wrong("no test for the finding behind \"" + ahead.substring(Math.max(0, ahead.length() - 60)) + "\"");
      }
    }
  }
}
