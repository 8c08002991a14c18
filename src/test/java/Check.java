import java.nio.charset.StandardCharsets;
import java.util.Arrays;

/** What the project's tests share: a tally of wrong answers, and pictures fed from texts. */
final class Check {
  private final String name;
  private int answers = 0;
  private int wrong = 0;

  Check(String name) {
    this.name = name;
  }

  void due(String call, long got, long want) {
    answers++;
    if (got != want) {
      wrong++;
      if (wrong <= 50) {
        System.out.println(name + ": " + call + " answered " + got + ", due is " + want);
      }
    }
  }

  void due(String call, boolean got, boolean want) {
    due(call, got ? 1 : 0, want ? 1 : 0);
  }

  boolean isWrong() {
    return wrong != 0;
  }

  void close() {
    System.out.println(name + ": " + answers + " answers, " + wrong + " of them not as due");
    if (wrong != 0) {
      System.exit(1);
    }
  }

  /** The five numbers of each feed() that a text needs, zeros behind its end. */
  static int[][] feeds(byte[] text) {
    int[][] feeds = new int[(text.length + 19) / 20][5];
    for (int i = 0; i < feeds.length * 20; i++) {
      int sign = i < text.length ? text[i] & 255 : 0;
      feeds[i / 20][i % 20 / 4] |= sign << (24 - i % 4 * 8);
    }
    return feeds;
  }

  /** Puts a text alone on the tape, the rest of the last feed cut off. */
  static void tape(SettledDots dots, String text) {
    byte[] bytes = text.getBytes(StandardCharsets.ISO_8859_1);
    dots.end(0);
    for (int[] f : feeds(bytes)) {
      dots.feed(f[0], f[1], f[2], f[3], f[4]);
    }
    dots.end(bytes.length);
  }

  static SettledDots of(String text) {
    SettledDots dots = new SettledDots();
    tape(dots, text);
    if (dots.picture() == SettledDots.NONE) {
      throw new IllegalArgumentException("a fault in " + text);
    }
    return dots;
  }

  static String digits(int n, char digit) {
    char[] signs = new char[n];
    Arrays.fill(signs, digit);
    return new String(signs);
  }
}
