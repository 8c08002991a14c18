import java.nio.charset.StandardCharsets;
import java.util.ArrayList;
import java.util.List;
import java.util.Random;
import java.util.stream.IntStream;

/**
 * Random runs of calls on the class and on the Oracle side by side. The seeds are fixed, so that a
 * failure comes again; arguments: how many runs of each kind (else 1), the first seed (else 1).
 */
public final class OracleTest {
  private static final int NONE = SettledDots.NONE;
  private final Random random;
  private final int side;
  private final int most;
  private final SettledDots dots = new SettledDots();
  private final Oracle oracle = new Oracle();
  private final List<String> calls = new ArrayList<>();
  private boolean failed = false;

  private OracleTest(long seed, int side, int most) {
    this.random = new Random(seed);
    this.side = side;
    this.most = most;
  }

  public static void main(String[] args) {
    int times = args.length > 0 ? Integer.parseInt(args[0]) : 1;
    long first = args.length > 1 ? Long.parseLong(args[1]) : 1;
    boolean failed = IntStream.range(0, times * 400).parallel()
        .mapToObj(i -> new OracleTest(first + i, i % 5 + 1, 8).run(500).failed)
        .reduce(false, Boolean::logicalOr);
    failed |= IntStream.range(0, times * 60).parallel()
        .mapToObj(i -> new OracleTest(-first - i, 8, 40).run(160).failed)
        .reduce(false, Boolean::logicalOr);
    failed |= IntStream.range(0, times * 16).parallel()
        .mapToObj(i -> new OracleTest(1000000 + first + i, 20, 40).run(60).failed)
        .reduce(false, Boolean::logicalOr);
    System.out.println("OracleTest: " + times * 476 + " runs" + (failed ? ", some not as due" : ""));
    if (failed) {
      System.exit(1);
    }
  }

  private OracleTest run(int n) {
    if (random.nextInt(8) > 0) {
      pictureOf(goodText());
    }
    while (calls.size() < n && !failed) {
      int kind = random.nextInt(100);
      if (kind < 3) {
        pictureOf(goodText());
      } else if (kind < 7) {
        pictureOf(badText());
      } else if (kind < 30) {
        act();
      } else {
        ask();
      }
    }
    return this;
  }

  private void same(String call, long got, long want) {
    calls.add(call + " = " + want);
    if (got != want && !failed) {
      failed = true;
      synchronized (System.out) {
        System.out.println("OracleTest: " + call + " answered " + got + ", due is " + want + ", behind");
        calls.forEach(c -> System.out.println("  " + c));
      }
    }
  }

  private void same(String call, boolean got, boolean want) {
    same(call, got ? 1 : 0, want ? 1 : 0);
  }

  // ---- pictures ----

  private void pictureOf(String text) {
    byte[] bytes = text.getBytes(StandardCharsets.ISO_8859_1);
    calls.add("'" + text + "'");
    same("end(0)", dots.end(0), oracle.end(0));
    for (int[] f : Check.feeds(bytes)) {
      same("feed", dots.feed(f[0], f[1], f[2], f[3], f[4]), oracle.feed(f));
    }
    same("end", dots.end(bytes.length), oracle.end(bytes.length));
    same("picture()", dots.picture(), oracle.picture());
    for (int what = -1; what < 3; what++) {
      same("fault(" + what + ")", dots.fault(what), oracle.fault(what));
    }
    same("about(2)", dots.about(2), oracle.about(2));
    same("about(9)", dots.about(9), oracle.about(9));
  }

  private String blank() {
    return random.nextInt(4) == 0 ? "\n" : " ";
  }

  private String goodText() {
    StringBuilder text = new StringBuilder();
    int width = 8;
    int height = 8;
    if (side != 8 || random.nextBoolean()) {
      width = side == 20 ? 12 + random.nextInt(9) : 1 + random.nextInt(side);
      height = side == 20 ? 12 + random.nextInt(9) : 1 + random.nextInt(side);
      text.append("size ").append(width).append(blank()).append(height).append(";");
    }
    int densest = random.nextInt(3) == 0 ? 2 : 10;
    for (int y = 0; y < height && random.nextInt(12) > 0; y++) {
      text.append("row").append(random.nextBoolean() ? "" : blank());
      int told = random.nextInt(4) == 0 ? 1 + random.nextInt(width) : width;
      for (int x = 0; x < told; x++) {
        text.append(random.nextInt(3) == 0 ? 0 : random.nextInt(densest));
      }
      text.append(";");
    }
    int n = random.nextInt(3) == 0 ? random.nextInt(most + 1) : random.nextInt(Math.min(most, 12));
    for (int i = 0; i < n && text.length() < 880; i++) {
      text.append("dot ").append(random.nextInt(width)).append(blank());
      text.append(random.nextInt(height)).append(";");
    }
    return text.toString();
  }

  private String badText() {
    StringBuilder text = new StringBuilder(goodText());
    String[] bits = {"size 2 2;", "row 1;", "dot 0 0;", ";", " ", "", "x", "row", "dot", "size",
        "A", "\t", "99", "12345", "00000", "abcdefgh", "abcdefghi", Check.digits(20, '1'),
        Check.digits(21, '1'), "\n", "0", "1", "\u00e9", "\u0000", "row 0;".repeat(20),
        "dot 0 0;".repeat(41)};
    for (int i = random.nextInt(3); i >= 0; i--) {
      int from = random.nextInt(text.length() + 1);
      int to = Math.min(text.length(), from + random.nextInt(4));
      text.replace(from, to, bits[random.nextInt(bits.length)]);
    }
    if (random.nextInt(6) == 0) {
      text.setLength(random.nextInt(text.length() + 1));
    }
    return text.length() > 880 ? text.substring(0, 880) : text.toString();
  }

  // ---- calls ----

  private int about(int what) {
    return dots.about(what);
  }

  /** A number below n, now and then one that is just outside or far away. */
  private int below(int n) {
    return switch (random.nextInt(24)) {
      case 0 -> NONE;
      case 1 -> n;
      case 2 -> random.nextInt(4) == 0 ? random.nextInt() : n - 1;
      default -> n > 0 ? random.nextInt(n) : 0;
    };
  }

  private void act() {
    int x = below(about(0));
    int y = below(about(1));
    int d = below(about(2));
    switch (random.nextInt(17)) {
      case 0, 1 -> same("put(" + x + ", " + y + ")", dots.put(x, y), oracle.put(x, y));
      case 2 -> same("take(" + d + ")", dots.take(d), oracle.take(d));
      case 3 -> same("move(" + d + ", " + x + ", " + y + ")", dots.move(d, x, y), oracle.move(d, x, y));
      case 4 -> {
        int n = random.nextInt(3) == 0 ? below(42) : 1 + random.nextInt(4);
        same("draw(" + n + ")", dots.draw(n), oracle.draw(n));
      }
      case 5 -> {
        int s = random.nextInt(4) == 0 ? random.nextInt() : random.nextInt(Integer.MAX_VALUE);
        same("seed(" + s + ")", dots.seed(s), oracle.seed(s));
      }
      case 6, 7 -> {
        int w = below(10);
        same("paint(" + x + ", " + y + ", " + w + ")", dots.paint(x, y, w), oracle.paint(x, y, w));
      }
      case 8, 9 -> {
        int n = random.nextInt(5) == 0 ? below(102) : 1 + random.nextInt(3);
        same("rounds(" + n + ")", dots.rounds(n), oracle.rounds(n));
      }
      case 10 -> {
        int low = random.nextInt(4) == 0 ? below(10001) : random.nextInt(12);
        int high = low + random.nextInt(40) - 1;
        same("adapt(" + low + ", " + high + ")", dots.adapt(low, high), oracle.adapt(low, high));
      }
      case 11 -> same("turn()", dots.turn(), oracle.turn());
      case 12, 13 -> same("undo()", dots.undo(), oracle.undo());
      case 14 -> same("redo()", dots.redo(), oracle.redo());
      case 15 -> {
        int box = below(2);
        same("image(" + box + ")", dots.image(box), oracle.image(box));
      }
      default -> {
        int box = below(2);
        same("back(" + box + ")", dots.back(box), oracle.back(box));
      }
    }
  }

  private void ask() {
    switch (random.nextInt(3)) {
      case 0 -> askOfDots();
      case 1 -> askOfCells();
      default -> askOfAll();
    }
  }

  private void askOfDots() {
    int d = below(about(2));
    int o = below(about(2));
    int what = below(3);
    switch (random.nextInt(9)) {
      case 0, 1, 2 -> {
        int w = below(8);
        same("dot(" + d + ", " + w + ")", dots.dot(d, w), oracle.dot(d, w));
      }
      case 3 -> same("edge(" + d + ", " + what + ")", dots.edge(d, what), oracle.edge(d, what));
      case 4 -> same("touch(" + d + ", " + o + ")", dots.touch(d, o), oracle.touch(d, o));
      case 5 -> same("way(" + d + ", " + o + ")", dots.way(d, o), oracle.way(d, o));
      case 6 -> same("step(" + d + ")", dots.step(d), oracle.step(d));
      case 7 -> same("loss(" + d + ")", dots.loss(d), oracle.loss(d));
      default -> {
        if (side < 20 || random.nextInt(6) == 0) {
          same("best(" + d + ", " + what + ")", dots.best(d, what), oracle.best(d, what));
        }
      }
    }
  }

  private void askOfCells() {
    int x = below(about(0));
    int y = below(about(1));
    int d = below(about(2));
    int what = below(2);
    String at = x + ", " + y;
    switch (random.nextInt(8)) {
      case 0, 1 -> {
        int w = below(4);
        same("cell(" + at + ", " + w + ")", dots.cell(x, y, w), oracle.cell(x, y, w));
      }
      case 2 -> same("near(" + at + ", " + d + ")", dots.near(x, y, d), oracle.near(x, y, d));
      case 3 -> same("far(" + at + ", " + d + ", " + what + ")",
          dots.far(x, y, d, what), oracle.far(x, y, d, what));
      case 4 -> {
        int r = below(random.nextBoolean() ? 31 : 5);
        same("around(" + at + ", " + r + ")", dots.around(x, y, r), oracle.around(x, y, r));
      }
      case 5 -> same("ring(" + at + ")", dots.ring(x, y), oracle.ring(x, y));
      case 6 -> same("ties(" + at + ")", dots.ties(x, y), oracle.ties(x, y));
      default -> {
        int right = random.nextInt(5) == 0 ? below(about(0)) : Math.min(x + 2, about(0) - 1);
        int down = random.nextInt(5) == 0 ? below(about(1)) : Math.min(y + 2, about(1) - 1);
        same("tone(" + at + ", " + right + ", " + down + ", " + what + ")",
            dots.tone(x, y, right, down, what), oracle.tone(x, y, right, down, what));
      }
    }
  }

  private void askOfAll() {
    int what = below(3);
    switch (random.nextInt(13)) {
      case 0 -> same("closest(" + what + ")", dots.closest(what), oracle.closest(what));
      case 1 -> {
        int w = below(4);
        same("loads(" + w + ")", dots.loads(w), oracle.loads(w));
      }
      case 2 -> {
        int s = below(11);
        same("due(" + s + ")", dots.due(s), oracle.due(s));
      }
      case 3 -> {
        int s = below(10);
        int w = below(4);
        same("shade(" + s + ", " + w + ")", dots.shade(s, w), oracle.shade(s, w));
      }
      case 4 -> same("moves()", dots.moves(), oracle.moves());
      case 5 -> same("till(" + what + ")", dots.till(what), oracle.till(what));
      case 6 -> {
        int k = random.nextInt(3) == 0 ? NONE : below(random.nextInt(3) == 0 ? 21 : 4);
        same("steps(" + k + ", " + what + ")", dots.steps(k, what), oracle.steps(k, what));
      }
      case 7 -> same("idle()", dots.idle(), oracle.idle());
      case 8 -> {
        if (side < 20 || random.nextInt(6) == 0) {
          same("more(" + what + ")", dots.more(what), oracle.more(what));
        }
      }
      case 9 -> {
        int n = below(Math.min(about(0), about(1)) + 1);
        same("uneven(" + n + ", " + what + ")", dots.uneven(n, what), oracle.uneven(n, what));
      }
      case 10 -> {
        int box = below(2);
        same("against(" + box + ", " + what + ")", dots.against(box, what), oracle.against(box, what));
      }
      default -> {
        int w = below(10);
        same("about(" + w + ")", dots.about(w), oracle.about(w));
      }
    }
  }
}
