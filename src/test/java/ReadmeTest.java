import java.io.IOException;
import java.lang.reflect.InvocationTargetException;
import java.lang.reflect.Method;
import java.lang.reflect.Modifier;
import java.nio.charset.StandardCharsets;
import java.nio.file.Files;
import java.nio.file.Path;
import java.util.ArrayDeque;
import java.util.Arrays;
import java.util.Deque;
import java.util.List;
import java.util.Set;
import java.util.TreeSet;
import java.util.regex.Matcher;
import java.util.regex.Pattern;

/** Makes the calls that README.md shows: each must answer what stands behind it. */
public final class ReadmeTest {
  private static final Pattern BLOCK = Pattern.compile("(?s)```java\n(.*?)```");
  private static final Pattern CALL =
      Pattern.compile("dots\\.(\\w+)\\(([-\\d, ]*)\\);\\s*// ([\\w.-]+?)(:.*)?");
  private static final Pattern TEXT = Pattern.compile("// \"(.*)\"");
  private static final String MADE = "SettledDots dots = new SettledDots();";
  private static final Check CHECK = new Check("ReadmeTest");

  private final Set<String> shown = new TreeSet<>();
  /** The numbers that feed() needs for the text that was shown last. */
  private final Deque<int[]> feeds = new ArrayDeque<>();
  private SettledDots dots = new SettledDots();

  public static void main(String[] args) throws IOException {
    ReadmeTest test = new ReadmeTest();
    Matcher block = BLOCK.matcher(Files.readString(Path.of("README.md")));
    while (block.find()) {
      block.group(1).lines().forEach(test::follow);
    }
    for (Method m : SettledDots.class.getDeclaredMethods()) {
      if (Modifier.isPublic(m.getModifiers())) {
        CHECK.due(m.getName() + " is shown", test.shown.contains(m.getName()), true);
      }
    }
    CHECK.due("texts are fed whole", test.feeds.isEmpty(), true);
    CHECK.close();
  }

  private void follow(String line) {
    Matcher text = TEXT.matcher(line);
    Matcher call = CALL.matcher(line);
    if (line.equals(MADE)) {
      dots = new SettledDots();
    } else if (text.matches()) {
      byte[] bytes = text.group(1).getBytes(StandardCharsets.ISO_8859_1);
      feeds.addAll(List.of(Check.feeds(bytes)));
    } else if (call.matches()) {
      String list = call.group(2).trim();
      int[] numbers = list.isEmpty() ? new int[0]
          : Arrays.stream(list.split(", *")).mapToInt(Integer::parseInt).toArray();
      answer(line, call.group(1), numbers, valueOf(call.group(3)));
    } else {
      CHECK.due("a call with its answer: " + line, line.isBlank(), true);
    }
  }

  private void answer(String line, String name, int[] numbers, long due) {
    shown.add(name);
    if (name.equals("feed")) {
      CHECK.due("the text's numbers: " + line,
          !feeds.isEmpty() && Arrays.equals(feeds.remove(), numbers), true);
    }
    Class<?>[] types = new Class<?>[numbers.length];
    Arrays.fill(types, int.class);
    try {
      Object got = SettledDots.class.getMethod(name, types)
          .invoke(dots, Arrays.stream(numbers).boxed().toArray());
      CHECK.due(line, valueOf(String.valueOf(got)), due);
    } catch (NoSuchMethodException | IllegalAccessException | InvocationTargetException e) {
      CHECK.due(line + " ended by " + e, false, true);
    }
  }

  private static long valueOf(String answer) {
    return switch (answer) {
      case "true" -> 1;
      case "false" -> 0;
      case "NONE" -> SettledDots.NONE;
      case "Integer.MIN_VALUE" -> Integer.MIN_VALUE;
      default -> Long.parseLong(answer);
    };
  }
}
