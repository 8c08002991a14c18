import java.io.IOException;
import java.lang.reflect.InvocationTargetException;
import java.lang.reflect.Method;
import java.nio.file.Files;
import java.nio.file.Path;
import java.util.ArrayList;
import java.util.Arrays;
import java.util.Comparator;
import java.util.List;
import java.util.TreeSet;
import java.util.regex.Matcher;
import java.util.regex.Pattern;
import java.util.stream.Stream;

/**
 * Runs each test of a boundary case: the methods that bear a Sentence, in the classes whose name ends
 * in Boundaries. A test's name says the promise and the case; the words that it stands for must be in
 * the document, in that promise's section or in those ahead of the promises.
 *
 * <p>Arguments: none (all tests), "names" (their names), "unquoted" (what no test quotes).
 */
public final class BoundaryTest {
  private static final Path DOCUMENT = Path.of("../shared/DOC.md");
  private static final List<Class<?>> CLASSES = List.of(TapeBoundaries.class,
      PictureBoundaries.class, FaultBoundaries.class, ActBoundaries.class, RoundBoundaries.class,
      UndoBoundaries.class, OwnerBoundaries.class, CostBoundaries.class, LinkBoundaries.class,
      BoxBoundaries.class, SeenBoundaries.class);

  public static void main(String[] args) throws IOException {
    String document = flat(Files.readString(DOCUMENT));
    String mode = args.length > 0 ? args[0] : "";
    if (mode.equals("names")) {
      tests().forEach(t -> System.out.println(t.getName() + ": "
          + t.getAnnotation(Sentence.class).value()));
    } else if (mode.equals("unquoted")) {
      System.out.println(unquoted(document));
    } else if (!allHold(document)) {
      System.exit(1);
    }
  }

  /** By name, so by promise. */
  static List<Method> tests() {
    return CLASSES.stream().flatMap(c -> Stream.of(c.getDeclaredMethods()))
        .filter(m -> m.isAnnotationPresent(Sentence.class))
        .sorted(Comparator.comparing(Method::getName)).toList();
  }

  /** What is wrong with the answers in a test; empty if all are due. */
  static List<String> run(Method test) {
    try {
      test.setAccessible(true);
      test.invoke(null);
      return Boundary.wrong();
    } catch (InvocationTargetException | IllegalAccessException e) {
      List<String> wrong = new ArrayList<>(Boundary.wrong());
      wrong.add("ended by " + (e.getCause() == null ? e : e.getCause()));
      return wrong;
    }
  }

  private static boolean allHold(String document) {
    int failed = 0;
    TreeSet<String> promises = new TreeSet<>();
    for (Method test : tests()) {
      List<String> wrong = new ArrayList<>(run(test));
      wrong.addAll(wrongName(test, document));
      promises.add(test.getName().replaceAll("\\D.*?(\\d\\d).*", "$1"));
      if (!wrong.isEmpty()) {
        failed++;
        wrong.stream().limit(5).forEach(w ->
            System.out.println("BoundaryTest: " + test.getName() + ": " + w));
      }
    }
    if (promises.size() != 44) {
      failed++;
      System.out.println("BoundaryTest: not every promise has a test: " + promises);
    }
    System.out.println("BoundaryTest: " + tests().size() + " tests, " + Boundary.answers()
        + " answers, " + failed + " failed");
    return failed == 0;
  }

  private static List<String> wrongName(Method test, String document) {
    Matcher name = Pattern.compile("promise(\\d\\d)[A-Z]\\w+").matcher(test.getName());
    if (!name.matches()) {
      return List.of("its name says no promise");
    }
    String quote = flat(test.getAnnotation(Sentence.class).value());
    String terms = document.substring(0, document.indexOf("## Promise 1:"));
    boolean found = terms.contains(quote)
        || section(document, Integer.parseInt(name.group(1))).contains(quote);
    return found ? List.of() : List.of("the document does not say: " + quote);
  }

  private static String section(String document, int promise) {
    int start = document.indexOf("## Promise " + promise + ":");
    int end = start < 0 ? -1 : document.indexOf("## ", start + 3);
    return start < 0 || end < 0 ? "" : document.substring(start, end);
  }

  private static String flat(String text) {
    return text.replaceAll("\\s+", " ");
  }

  /** The document with dots for all that some test quotes: a help to see what is still untested. */
  private static String unquoted(String document) {
    char[] left = document.toCharArray();
    for (Method test : tests()) {
      String quote = flat(test.getAnnotation(Sentence.class).value());
      int promise = Integer.parseInt(test.getName().substring(7, 9));
      int from = section(document, promise).contains(quote)
          ? document.indexOf("## Promise " + promise + ":") : 0;
      int at = document.indexOf(quote, from);
      if (at >= 0) {
        Arrays.fill(left, at, at + quote.length(), '.');
      }
    }
    return new String(left).replaceAll("\\.{4,}", "...").replace("## ", "\n## ");
  }
}
