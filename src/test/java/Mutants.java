import java.io.ByteArrayOutputStream;
import java.io.IOException;
import java.io.InputStream;
import java.io.OutputStream;
import java.lang.reflect.Method;
import java.net.URI;
import java.nio.file.Files;
import java.nio.file.Path;
import java.util.ArrayList;
import java.util.HashMap;
import java.util.List;
import java.util.Map;
import java.util.concurrent.ExecutorService;
import java.util.concurrent.Executors;
import java.util.concurrent.Future;
import java.util.concurrent.TimeUnit;
import java.util.regex.Matcher;
import java.util.regex.Pattern;
import javax.tools.FileObject;
import javax.tools.ForwardingJavaFileManager;
import javax.tools.JavaCompiler;
import javax.tools.JavaFileManager;
import javax.tools.JavaFileObject;
import javax.tools.SimpleJavaFileObject;
import javax.tools.ToolProvider;

/**
 * A tool, no test: breaks the class at one place at a time (a sign, a number, a statement left out) and
 * prints the breaks that no test of BoundaryTest sees. It is run by hand, as README.md says.
 */
public final class Mutants {
  private static final Path SOURCE = Path.of("src/main/java/SettledDots.java");
  private static final long SECONDS = 15;
  private static final String[][] SIGNS = {{" < ", " <= "}, {" < ", " > "}, {" <= ", " < "},
      {" > ", " >= "}, {" > ", " < "}, {" >= ", " > "}, {" == ", " != "}, {" != ", " == "},
      {" && ", " || "}, {" || ", " && "}, {" + ", " - "}, {" - ", " + "}, {" * ", " + "},
      {" / ", " * "}, {" % ", " / "}, {"++", "--"}, {"--", "++"}, {" += ", " -= "},
      {"Math.max", "Math.min"}, {"Math.min", "Math.max"}, {"return NONE", "return 0"},
      {"true", "false"}, {"false", "true"}, {"(!", "("}, {" !", " "}};
  private static final Pattern NUMBER = Pattern.compile("(?<![\\w.])(\\d+)(L?)(?!\\w)");
  private static final Pattern STATEMENT = Pattern.compile(
      "(?!return)[\\w.]+\\(.*\\);|[\\w.\\[\\] +]+ [-+]?= .*;|[\\w.\\[\\]]+(\\+\\+|--);|continue;|return;");

  private record Mutant(int line, String text) {
  }

  /** A source or a class that is kept in memory. */
  private static final class Kept extends SimpleJavaFileObject {
    final ByteArrayOutputStream bytes = new ByteArrayOutputStream();
    private final String text;

    Kept(String name, Kind kind, String text) {
      super(URI.create("mem:///" + name + kind.extension), kind);
      this.text = text;
    }

    @Override
    public CharSequence getCharContent(boolean ignoreErrors) {
      return text;
    }

    @Override
    public OutputStream openOutputStream() {
      return bytes;
    }
  }

  /** Loads the broken class, and the tests anew, so that they use it. */
  private static final class Loader extends ClassLoader {
    private final Map<String, Kept> broken;

    Loader(Map<String, Kept> broken) {
      super(ClassLoader.getPlatformClassLoader());
      this.broken = broken;
    }

    @Override
    protected Class<?> findClass(String name) throws ClassNotFoundException {
      try (InputStream file = Mutants.class.getResourceAsStream("/" + name + ".class")) {
        if (file == null) {
          throw new ClassNotFoundException(name);
        }
        byte[] bytes = broken.containsKey(name) ? broken.get(name).bytes.toByteArray()
            : file.readAllBytes();
        return defineClass(name, bytes, 0, bytes.length);
      } catch (IOException e) {
        throw new ClassNotFoundException(name, e);
      }
    }
  }

  public static void main(String[] args) throws Exception {
    String[] lines = Files.readString(SOURCE).split("\n", -1);
    List<Mutant> mutants = new ArrayList<>();
    for (int i = 0; i < lines.length; i++) {
      if (!lines[i].matches("\\s*(/\\*|\\*|//|import).*")) {
        addMutants(mutants, i, lines[i]);
      }
    }
    ExecutorService judges = Executors.newFixedThreadPool(Runtime.getRuntime().availableProcessors());
    List<Future<Boolean>> unseen = new ArrayList<>();
    for (Mutant m : mutants) {
      unseen.add(judges.submit(() -> isUnseen(m, lines)));
    }
    int left = 0;
    for (int i = 0; i < mutants.size(); i++) {
      if (unseen.get(i).get()) {
        left++;
        System.out.println((mutants.get(i).line() + 1) + ": " + lines[mutants.get(i).line()].trim()
            + "  ==>  " + mutants.get(i).text().trim());
      }
    }
    System.out.println("Mutants: " + left + " of " + mutants.size() + " are seen by no test");
    // Some broken classes never end; their threads go with the machine.
    System.exit(0);
  }

  private static void addMutants(List<Mutant> mutants, int line, String text) {
    for (String[] sign : SIGNS) {
      for (int at = text.indexOf(sign[0]); at >= 0; at = text.indexOf(sign[0], at + 1)) {
        mutants.add(new Mutant(line,
            text.substring(0, at) + sign[1] + text.substring(at + sign[0].length())));
      }
    }
    Matcher number = NUMBER.matcher(text);
    while (number.find()) {
      for (long add : new long[] {-1, 1}) {
        mutants.add(new Mutant(line, text.substring(0, number.start())
            + (Long.parseLong(number.group(1)) + add) + number.group(2)
            + text.substring(number.end())));
      }
    }
    if (STATEMENT.matcher(text.trim()).matches()) {
      mutants.add(new Mutant(line, ";"));
    }
  }

  /** A class that can't be compiled or does not end is seen. */
  private static boolean isUnseen(Mutant mutant, String[] lines) throws InterruptedException {
    String[] broken = lines.clone();
    broken[mutant.line()] = mutant.text();
    Map<String, Kept> classes = compile(String.join("\n", broken));
    boolean[] unseen = {false};
    Thread judge = new Thread(() -> unseen[0] = !classes.isEmpty() && allHold(new Loader(classes)));
    judge.setDaemon(true);
    judge.start();
    judge.join(TimeUnit.SECONDS.toMillis(SECONDS));
    return !judge.isAlive() && unseen[0];
  }

  private static Map<String, Kept> compile(String source) {
    JavaCompiler compiler = ToolProvider.getSystemJavaCompiler();
    Map<String, Kept> classes = new HashMap<>();
    JavaFileManager files = new ForwardingJavaFileManager<JavaFileManager>(
        compiler.getStandardFileManager(null, null, null)) {
      @Override
      public JavaFileObject getJavaFileForOutput(Location where, String name, JavaFileObject.Kind kind,
          FileObject beside) {
        classes.put(name, new Kept(name, kind, ""));
        return classes.get(name);
      }
    };
    Kept text = new Kept("SettledDots", JavaFileObject.Kind.SOURCE, source);
    boolean compiled = compiler.getTask(null, files, d -> { }, List.of("-proc:none"), null, List.of(text))
        .call();
    return compiled ? classes : Map.of();
  }

  private static boolean allHold(Loader loader) {
    try {
      Class<?> test = loader.loadClass("BoundaryTest");
      Method tests = test.getDeclaredMethod("tests");
      Method run = test.getDeclaredMethod("run", Method.class);
      tests.setAccessible(true);
      run.setAccessible(true);
      for (Object each : (List<?>) tests.invoke(null)) {
        if (!((List<?>) run.invoke(null, each)).isEmpty()) {
          return false;
        }
      }
      return true;
    } catch (ReflectiveOperationException e) {
      return false;
    }
  }
}
