import com.sun.management.ThreadMXBean;
import java.io.IOException;
import java.lang.management.ManagementFactory;
import java.lang.reflect.Constructor;
import java.lang.reflect.Field;
import java.lang.reflect.Method;
import java.lang.reflect.Modifier;
import java.nio.file.Files;
import java.nio.file.Path;
import java.util.ArrayList;
import java.util.Arrays;
import java.util.Comparator;
import java.util.List;
import java.util.Random;
import java.util.Set;
import java.util.TreeSet;
import java.util.regex.Matcher;
import java.util.regex.Pattern;
import java.util.stream.Collectors;

/** The rules of ../shared/LANGUAGE.md that can be seen from outside, and the document's face. */
public final class RulesTest {
  private static final Check CHECK = new Check("RulesTest");

  public static void main(String[] args) throws IOException {
    String document = Files.readString(Path.of("../shared/DOC.md"));
    face(document);
    membersOfClasses();
    room();
    neverThrows();
    CHECK.close();
  }

  private static void holds(String rule, boolean held) {
    CHECK.due(rule, held, true);
  }

  private static void face(String document) {
    Set<String> promised = new TreeSet<>();
    Matcher line = Pattern.compile("(?m)^    public (int|boolean) (\\w+)\\((.*)\\);").matcher(document);
    while (line.find()) {
      String types = line.group(3).replaceAll("(int|boolean) \\w+", "$1");
      promised.add(line.group(1) + " " + line.group(2) + "(" + types + ")");
    }
    Set<String> there = new TreeSet<>();
    for (Method m : SettledDots.class.getDeclaredMethods()) {
      if (!Modifier.isPrivate(m.getModifiers())) {
        holds("rule 1: " + m.getName() + " is public", Modifier.isPublic(m.getModifiers()));
        there.add(m.getReturnType() + " " + m.getName() + "(" + Arrays.stream(m.getParameterTypes())
            .map(Class::getName).collect(Collectors.joining(", ")) + ")");
      }
    }
    holds("the face has all 43 methods, not " + promised.size(), promised.size() == 43);
    holds("rule 1: " + there + " is the face " + promised, there.equals(promised));
    holds("rule 1: the class is public and final",
        Modifier.isPublic(SettledDots.class.getModifiers())
            && Modifier.isFinal(SettledDots.class.getModifiers()));
    Constructor<?>[] constructors = SettledDots.class.getDeclaredConstructors();
    holds("rule 1: one public constructor", constructors.length == 1
        && Modifier.isPublic(constructors[0].getModifiers())
        && constructors[0].getParameterCount() == 0);
    for (Field f : SettledDots.class.getDeclaredFields()) {
      holds("rule 1: the field " + f.getName() + " is private or NONE",
          Modifier.isPrivate(f.getModifiers()) || f.getName().equals("NONE"));
    }
  }

  private static void membersOfClasses() {
    Set<String> face = new TreeSet<>();
    for (Method m : SettledDots.class.getDeclaredMethods()) {
      if (Modifier.isPublic(m.getModifiers())) {
        face.add(m.getName());
      }
    }
    List<Class<?>> classes = new ArrayList<>(List.of(SettledDots.class.getDeclaredClasses()));
    for (Class<?> c : classes) {
      holds("rule 2: " + c.getName() + " is static", Modifier.isStatic(c.getModifiers()));
      holds("rule 2: nothing is nested in " + c.getName(), c.getDeclaredClasses().length == 0);
    }
    classes.add(SettledDots.class);
    holds("rule 11: twelve classes at most", classes.size() <= 12);
    for (Class<?> c : classes) {
      int fields = 0;
      for (Field f : c.getDeclaredFields()) {
        if (Modifier.isStatic(f.getModifiers())) {
          holds("rule 5: " + c.getName() + "." + f.getName() + " is final",
              Modifier.isFinal(f.getModifiers()));
        } else {
          fields++;
        }
      }
      holds("rule 11: " + c.getName() + " has twenty fields at most", fields <= 20);
      for (Method m : c.getDeclaredMethods()) {
        String name = c.getName() + "." + m.getName();
        holds("rule 11: " + name + " has seven parameters at most", m.getParameterCount() <= 7);
        holds("rule 1: " + name + " bears no public name", face.contains(m.getName())
            == (c == SettledDots.class && Modifier.isPublic(m.getModifiers())));
      }
    }
  }

  /** Numbers at and beside all bounds of the document, in each place, on pictures from least to most. */
  private static void neverThrows() {
    int[] numbers = {Integer.MIN_VALUE, -2, -1, 0, 1, 2, 3, 7, 8, 9, 10, 12, 19, 20, 21, 30, 31, 39, 40,
        41, 99, 100, 101, 200, 399, 400, 900, 901, 9999, 10000, Integer.MAX_VALUE};
    Method[] face = Arrays.stream(SettledDots.class.getMethods())
        .filter(m -> m.getDeclaringClass() == SettledDots.class)
        .sorted(Comparator.comparing(Method::getName)).toArray(Method[]::new);
    Random random = new Random(1);
    for (String text : List.of("", "size 1 1;", "size 1 1;row 9;dot 0 0;", Boundary.LADEN,
        "size20 20;" + ("row" + "9".repeat(20) + ";").repeat(20) + "dot19 19;".repeat(40))) {
      for (int run = 0; run < 40; run++) {
        SettledDots dots = Boundary.of(text);
        for (int call = 0; call < 512; call++) {
          Method m = face[random.nextInt(face.length)];
          Object[] arguments = new Object[m.getParameterCount()];
          Arrays.setAll(arguments, i -> numbers[random.nextInt(numbers.length)]);
          try {
            m.invoke(dots, arguments);
          } catch (ReflectiveOperationException e) {
            holds("rule 7: " + m.getName() + Arrays.toString(arguments) + " on '" + text + "' throws "
                + e.getCause(), false);
          }
        }
      }
    }
  }

  /** All calls of a run live in one room, so that calls must make next to nothing. */
  private static void room() {
    ThreadMXBean threads = (ThreadMXBean) ManagementFactory.getThreadMXBean();
    long me = Thread.currentThread().getId();
    longRun(new SettledDots());
    long start = threads.getThreadAllocatedBytes(me);
    SettledDots dots = new SettledDots();
    long made = threads.getThreadAllocatedBytes(me);
    longRun(dots);
    long called = threads.getThreadAllocatedBytes(me);
    holds("rule 12: an object has 200 KB at most, not " + (made - start), made - start < 200_000);
    holds("rule 12: calls make 4 KB at most, not " + (called - made), called - made < 4_000);
  }

  private static void longRun(SettledDots dots) {
    for (int i = 0; i < 400; i++) {
      dots.paint(i * 7 % 8, i / 8 % 8, i % 9);
      dots.draw(1);
      dots.rounds(100);
      dots.till(0);
      dots.best(i % 3, 0);
      dots.more(0);
      dots.idle();
      dots.way(0, i % 5);
      dots.dot(i % 4, 7);
      dots.uneven(3, 1);
      dots.due(4);
      dots.near(i % 8, 0, i % 6);
      dots.adapt(1, 30);
      dots.turn();
      dots.undo();
      dots.redo();
      dots.image(i % 2);
      dots.against(0, 0);
      dots.back(i % 2);
      dots.feed(0x646f7420, 0x3020303b, 0x646f7420, 0x3120313b, 0x20202020);
      if (i % 50 == 0) {
        dots.picture();
      }
    }
  }
}
