import java.math.BigInteger;
import java.util.ArrayDeque;
import java.util.ArrayList;
import java.util.Comparator;
import java.util.HashSet;
import java.util.List;
import java.util.Set;
import java.util.TreeSet;

/**
 * The document once more, as plainly as can be: pictures are never changed but made anew, numbers
 * are fractions of big integers, and nothing is kept that can be worked out. It is slow.
 */
final class Oracle {
  private static final int NONE = -1;

  record Fraction(BigInteger top, BigInteger under) implements Comparable<Fraction> {
    static Fraction of(long top, long under) {
      return of(BigInteger.valueOf(top), BigInteger.valueOf(under));
    }

    static Fraction of(BigInteger top, BigInteger under) {
      BigInteger common = top.gcd(under);
      return new Fraction(top.divide(common), under.divide(common));
    }

    Fraction plus(Fraction o) {
      return of(top.multiply(o.under).add(o.top.multiply(under)), under.multiply(o.under));
    }

    Fraction minus(Fraction o) {
      return plus(new Fraction(o.top.negate(), o.under));
    }

    Fraction times(Fraction o) {
      return of(top.multiply(o.top), under.multiply(o.under));
    }

    Fraction times(long o) {
      return times(of(o, 1));
    }

    int cut() {
      return top.divide(under).intValueExact();
    }

    boolean isZero() {
      return top.signum() == 0;
    }

    @Override
    public int compareTo(Fraction o) {
      return top.multiply(o.under).compareTo(o.top.multiply(under));
    }
  }

  record Dot(Fraction x, Fraction y) {
    static Dot at(int x, int y) {
      return new Dot(Fraction.of(x, 1), Fraction.of(y, 1));
    }

    Fraction squareTo(Dot o) {
      Fraction right = x.minus(o.x);
      Fraction below = y.minus(o.y);
      return right.times(right).plus(below.times(below));
    }

    /** D: the least number by which both fractions become whole. */
    BigInteger parts() {
      return x.under.multiply(y.under).divide(x.under.gcd(y.under));
    }
  }

  record Picture(int width, int height, List<Integer> weights, List<Dot> dots, long seed) {
    boolean holds(int x, int y) {
      return 0 <= x && x < width && 0 <= y && y < height;
    }

    boolean has(int dot) {
      return 0 <= dot && dot < dots.size();
    }

    int size() {
      return width * height;
    }

    Dot cell(int number) {
      return Dot.at(number % width, number / width);
    }

    Fraction distance(int number, int dot) {
      return cell(number).squareTo(dots.get(dot));
    }

    Picture with(List<Dot> other) {
      return new Picture(width, height, weights, List.copyOf(other), seed);
    }

    Picture with(List<Dot> other, long otherSeed) {
      return new Picture(width, height, weights, List.copyOf(other), otherSeed);
    }

    Picture painted(int number, int weight) {
      List<Integer> other = new ArrayList<>(weights);
      other.set(number, weight);
      return new Picture(width, height, List.copyOf(other), dots, seed);
    }

    int owner(int number) {
      return nearest(number).isEmpty() ? NONE : nearest(number).get(0);
    }

    List<Integer> nearest(int number) {
      List<Integer> order = new ArrayList<>();
      for (int i = 0; i < dots.size(); i++) {
        order.add(i);
      }
      List<Fraction> far = new ArrayList<>();
      for (int i = 0; i < dots.size(); i++) {
        far.add(distance(number, i));
      }
      order.sort(Comparator.<Integer, Fraction>comparing(far::get).thenComparing(i -> i));
      return order;
    }

    int all() {
      return weights.stream().mapToInt(w -> w).sum();
    }
  }

  /** OWNERS of a picture and what follows from them, worked out once for many questions. */
  static final class View {
    final Picture p;
    final int[] owner;
    final int[] cost;

    View(Picture p) {
      this.p = p;
      owner = new int[p.size()];
      cost = new int[p.size()];
      for (int c = 0; c < p.size(); c++) {
        Fraction least = null;
        owner[c] = NONE;
        for (int d = 0; d < p.dots.size(); d++) {
          Fraction far = p.distance(c, d);
          if (least == null || far.compareTo(least) < 0) {
            least = far;
            owner[c] = d;
          }
        }
        cost[c] = least == null ? 0 : least.times(1000L * p.weights.get(c)).cut();
      }
    }

    List<Integer> cellsOf(int dot) {
      List<Integer> cells = new ArrayList<>();
      for (int c = 0; c < owner.length; c++) {
        if (owner[c] == dot) {
          cells.add(c);
        }
      }
      return cells;
    }

    int load(int dot) {
      return cellsOf(dot).stream().mapToInt(p.weights::get).sum();
    }

    int cost(int dot) {
      return cellsOf(dot).stream().mapToInt(c -> cost[c]).sum();
    }

    int cost() {
      int sum = 0;
      for (int c : cost) {
        sum += c;
      }
      return sum;
    }

    Picture round() {
      List<Dot> dots = new ArrayList<>(p.dots);
      Set<Integer> waiting = new TreeSet<>();
      for (int d = 0; d < dots.size(); d++) {
        int load = load(d);
        if (load == 0) {
          waiting.add(d);
          continue;
        }
        int x = 0;
        int y = 0;
        for (int c : cellsOf(d)) {
          x += p.weights.get(c) * (c % p.width);
          y += p.weights.get(c) * (c / p.width);
        }
        dots.set(d, new Dot(Fraction.of(x, load), Fraction.of(y, load)));
      }
      for (int d : new ArrayList<>(waiting)) {
        int worst = worst(dots, waiting);
        waiting.remove(d);
        if (worst != NONE) {
          dots.set(d, p.cell(worst));
        }
      }
      return p.with(dots);
    }

    private int worst(List<Dot> dots, Set<Integer> waiting) {
      Fraction most = Fraction.of(0, 1);
      int found = NONE;
      for (int c = 0; c < p.size(); c++) {
        Fraction least = null;
        for (int d = 0; d < dots.size(); d++) {
          Fraction far = p.cell(c).squareTo(dots.get(d));
          if (!waiting.contains(d) && (least == null || far.compareTo(least) < 0)) {
            least = far;
          }
        }
        if (least != null && least.times(p.weights.get(c)).compareTo(most) > 0) {
          most = least.times(p.weights.get(c));
          found = c;
        }
      }
      return found;
    }

    int spot(int dot) {
      int found = 0;
      for (int c = 1; c < p.size(); c++) {
        if (p.distance(c, dot).compareTo(p.distance(found, dot)) < 0) {
          found = c;
        }
      }
      return found;
    }

    boolean beside(int a, int b) {
      int right = Math.abs(a % p.width - b % p.width);
      int below = Math.abs(a / p.width - b / p.width);
      return right + below == 1;
    }

    int couples(int dot, int other) {
      int found = 0;
      for (int a : cellsOf(dot)) {
        for (int b : cellsOf(other)) {
          found += beside(a, b) ? 1 : 0;
        }
      }
      return found;
    }

    int pieces(int dot) {
      Set<Integer> left = new HashSet<>(cellsOf(dot));
      int pieces = 0;
      while (!left.isEmpty()) {
        pieces++;
        ArrayDeque<Integer> open = new ArrayDeque<>();
        open.add(left.iterator().next());
        left.remove(open.peek());
        while (!open.isEmpty()) {
          int c = open.poll();
          for (int o : new ArrayList<>(left)) {
            if (beside(c, o)) {
              left.remove(o);
              open.add(o);
            }
          }
        }
      }
      return pieces;
    }
  }

  private Picture now = blank();
  private View seen = null;
  private final List<Integer> tape = new ArrayList<>();
  private int fault = 0;
  private int place = NONE;
  private final ArrayDeque<Picture> undo = new ArrayDeque<>();
  private final ArrayDeque<Picture> redo = new ArrayDeque<>();
  private final ArrayDeque<int[]> steps = new ArrayDeque<>();
  private final Picture[] boxes = new Picture[2];

  private static Picture blank() {
    return new Picture(8, 8, zeros(64), List.of(), 0);
  }

  private static List<Integer> zeros(int n) {
    List<Integer> zeros = new ArrayList<>();
    for (int i = 0; i < n; i++) {
      zeros.add(0);
    }
    return zeros;
  }

  private View view() {
    if (seen == null || seen.p != now) {
      seen = new View(now);
    }
    return seen;
  }

  private void act(Picture next) {
    undo.push(now);
    while (undo.size() > 12) {
      undo.removeLast();
    }
    redo.clear();
    steps.clear();
    now = next;
  }

  int feed(int... numbers) {
    if (tape.size() + 20 > 900) {
      return NONE;
    }
    for (int number : numbers) {
      for (int i = 3; i >= 0; i--) {
        tape.add(number >>> (8 * i) & 0xff);
      }
    }
    return tape.size();
  }

  int end(int n) {
    if (n < 0 || n > tape.size()) {
      return NONE;
    }
    tape.subList(n, tape.size()).clear();
    return n;
  }

  int picture() {
    OracleReader reader = new OracleReader(tape);
    tape.clear();
    fault = reader.fault;
    place = reader.place;
    if (fault != 0) {
      return NONE;
    }
    List<Dot> dots = new ArrayList<>();
    for (int[] d : reader.dots) {
      dots.add(Dot.at(d[0], d[1]));
    }
    now = new Picture(reader.width, reader.height, reader.weights(), dots, 0);
    undo.clear();
    redo.clear();
    steps.clear();
    boxes[0] = null;
    boxes[1] = null;
    return dots.size();
  }

  int fault(int what) {
    return what == 0 ? fault : what == 1 ? place : NONE;
  }

  int put(int x, int y) {
    if (!now.holds(x, y) || now.dots.size() == 40) {
      return NONE;
    }
    List<Dot> dots = new ArrayList<>(now.dots);
    dots.add(Dot.at(x, y));
    act(now.with(dots));
    return dots.size() - 1;
  }

  int take(int dot) {
    if (!now.has(dot)) {
      return NONE;
    }
    List<Dot> dots = new ArrayList<>(now.dots);
    dots.remove(dot);
    act(now.with(dots));
    return dots.size();
  }

  boolean move(int dot, int x, int y) {
    if (!now.has(dot) || !now.holds(x, y) || now.dots.get(dot).equals(Dot.at(x, y))) {
      return false;
    }
    List<Dot> dots = new ArrayList<>(now.dots);
    dots.set(dot, Dot.at(x, y));
    act(now.with(dots));
    return true;
  }

  int draw(int n) {
    List<Integer> free = new ArrayList<>();
    for (int c = 0; c < now.size(); c++) {
      if (!now.dots.contains(now.cell(c)) && now.weights.get(c) > 0) {
        free.add(c);
      }
    }
    if (n < 1 || n > 40 || now.dots.size() + n > 40 || free.size() < n) {
      return NONE;
    }
    long seed = now.seed;
    List<Dot> dots = new ArrayList<>(now.dots);
    for (int i = 0; i < n; i++) {
      List<Integer> urn = new ArrayList<>();
      for (int c : free) {
        for (int k = 0; k < now.weights.get(c); k++) {
          urn.add(c);
        }
      }
      seed = BigInteger.valueOf(seed).multiply(BigInteger.valueOf(1103515245))
          .add(BigInteger.valueOf(12345)).mod(BigInteger.valueOf(2147483648L)).longValueExact();
      Integer drawn = urn.get((int) (seed / 65536 % urn.size()));
      free.remove(drawn);
      dots.add(now.cell(drawn));
    }
    act(now.with(dots, seed));
    return dots.size();
  }

  int seed(int s) {
    if (s < 0) {
      return NONE;
    }
    int was = (int) now.seed;
    now = now.with(now.dots, s);
    return was;
  }

  int paint(int x, int y, int weight) {
    if (!now.holds(x, y) || weight < 0 || weight > 9) {
      return NONE;
    }
    int was = now.weights.get(y * now.width + x);
    if (was == weight) {
      return NONE;
    }
    act(now.painted(y * now.width + x, weight));
    return was;
  }

  int rounds(int n) {
    if (n < 1 || n > 100 || now.dots.isEmpty()) {
      return NONE;
    }
    List<int[]> kept = new ArrayList<>(steps);
    Picture at = now;
    int made = 0;
    while (made < n) {
      View v = new View(at);
      Picture next = v.round();
      int moved = moved(at, next);
      kept.add(0, new int[] {moved, v.cost()});
      at = next;
      made++;
      if (moved == 0) {
        break;
      }
    }
    act(at);
    steps.addAll(kept.subList(0, Math.min(20, kept.size())));
    return made;
  }

  private static int moved(Picture a, Picture b) {
    int moved = 0;
    for (int d = 0; d < Math.min(a.dots.size(), b.dots.size()); d++) {
      moved += a.dots.get(d).equals(b.dots.get(d)) ? 0 : 1;
    }
    return moved;
  }

  int adapt(int low, int high) {
    if (low < 0 || low > 9999 || high < low || high > 9999) {
      return NONE;
    }
    View v = view();
    List<Dot> dots = new ArrayList<>();
    for (int d = 0; d < now.dots.size(); d++) {
      if (v.load(d) >= low) {
        dots.add(now.dots.get(d));
      }
    }
    boolean taken = dots.size() < now.dots.size();
    boolean put = false;
    for (int d = 0; d < now.dots.size(); d++) {
      if (v.load(d) < low || v.load(d) <= high || dots.size() >= 40) {
        continue;
      }
      Fraction most = Fraction.of(0, 1);
      int found = NONE;
      for (int c : v.cellsOf(d)) {
        Fraction its = now.distance(c, d).times(now.weights.get(c));
        if (its.compareTo(most) > 0) {
          most = its;
          found = c;
        }
      }
      if (found != NONE) {
        dots.add(now.cell(found));
        put = true;
      }
    }
    if (!taken && !put) {
      return NONE;
    }
    act(now.with(dots));
    return dots.size();
  }

  int turn() {
    List<Integer> weights = zeros(now.size());
    for (int y = 0; y < now.height; y++) {
      for (int x = 0; x < now.width; x++) {
        int newX = now.height - 1 - y;
        weights.set(x * now.height + newX, now.weights.get(y * now.width + x));
      }
    }
    List<Dot> dots = new ArrayList<>();
    for (Dot d : now.dots) {
      dots.add(new Dot(Fraction.of(now.height - 1, 1).minus(d.y), d.x));
    }
    act(new Picture(now.height, now.width, weights, dots, now.seed));
    return now.width;
  }

  boolean undo() {
    if (undo.isEmpty()) {
      return false;
    }
    redo.push(now);
    now = undo.pop();
    steps.clear();
    return true;
  }

  boolean redo() {
    if (redo.isEmpty()) {
      return false;
    }
    undo.push(now);
    now = redo.pop();
    steps.clear();
    return true;
  }

  int dot(int dot, int what) {
    if (!now.has(dot)) {
      return NONE;
    }
    Dot d = now.dots.get(dot);
    BigInteger parts = d.parts();
    return switch (what) {
      case 0 -> d.x.top.multiply(parts.divide(d.x.under)).intValueExact();
      case 1 -> d.y.top.multiply(parts.divide(d.y.under)).intValueExact();
      case 2 -> parts.intValueExact();
      case 3 -> view().cellsOf(dot).size();
      case 4 -> view().load(dot);
      case 5 -> view().cost(dot);
      case 6 -> view().spot(dot);
      case 7 -> view().pieces(dot);
      default -> NONE;
    };
  }

  int cell(int x, int y, int what) {
    if (!now.holds(x, y)) {
      return NONE;
    }
    int c = y * now.width + x;
    return switch (what) {
      case 0 -> now.weights.get(c);
      case 1 -> view().owner[c];
      case 2 -> view().cost[c];
      case 3 -> spots(x, y, x, y);
      default -> NONE;
    };
  }

  private int spots(int x, int y, int right, int down) {
    int found = 0;
    for (int d = 0; d < now.dots.size(); d++) {
      int spot = view().spot(d);
      int sx = spot % now.width;
      int sy = spot / now.width;
      found += x <= sx && sx <= right && y <= sy && sy <= down ? 1 : 0;
    }
    return found;
  }

  int near(int x, int y, int k) {
    if (!now.holds(x, y) || !now.has(k)) {
      return NONE;
    }
    return now.nearest(y * now.width + x).get(k);
  }

  int far(int x, int y, int dot, int what) {
    if (!now.holds(x, y) || !now.has(dot) || what < 0 || what > 1) {
      return NONE;
    }
    Fraction far = now.distance(y * now.width + x, dot);
    return what == 0 ? far.cut() : far.minus(Fraction.of(far.cut(), 1)).times(1000).cut();
  }

  int around(int x, int y, int r) {
    if (!now.holds(x, y) || r < 0 || r > 30) {
      return NONE;
    }
    int found = 0;
    for (int d = 0; d < now.dots.size(); d++) {
      found += now.distance(y * now.width + x, d).compareTo(Fraction.of(r * r, 1)) <= 0 ? 1 : 0;
    }
    return found;
  }

  int ring(int x, int y) {
    if (!now.holds(x, y) || now.dots.isEmpty()) {
      return NONE;
    }
    Dot owner = now.dots.get(now.owner(y * now.width + x));
    return Math.max(Math.abs(owner.x.cut() - x), Math.abs(owner.y.cut() - y));
  }

  int closest(int what) {
    int[] found = {Integer.MAX_VALUE, NONE, NONE};
    for (int a = 0; a < now.dots.size(); a++) {
      for (int b = a + 1; b < now.dots.size(); b++) {
        int apart = now.dots.get(a).squareTo(now.dots.get(b)).times(1000).cut();
        if (apart < found[0]) {
          found = new int[] {apart, a, b};
        }
      }
    }
    return found[1] == NONE || what < 0 || what > 2 ? NONE : found[what];
  }

  int loads(int what) {
    if (now.dots.isEmpty() || what < 0 || what > 3) {
      return NONE;
    }
    int[] found = {NONE, Integer.MAX_VALUE, NONE, NONE};
    int cost = NONE;
    for (int d = 0; d < now.dots.size(); d++) {
      int load = view().load(d);
      if (load > found[0]) {
        found[0] = load;
        found[2] = d;
      }
      found[1] = Math.min(found[1], load);
      if (view().cost(d) > cost) {
        cost = view().cost(d);
        found[3] = d;
      }
    }
    return found[what];
  }

  int ties(int x, int y) {
    if (!now.holds(x, y) || now.dots.isEmpty()) {
      return NONE;
    }
    int c = y * now.width + x;
    Fraction least = now.distance(c, now.owner(c));
    int found = 0;
    for (int d = 0; d < now.dots.size(); d++) {
      found += now.distance(c, d).equals(least) ? 1 : 0;
    }
    return found;
  }

  int due(int s) {
    if (s < 1 || s > 9) {
      return NONE;
    }
    if (now.all() == 0) {
      return 0;
    }
    int[] given = new int[10];
    Fraction[] cut = new Fraction[10];
    int left = now.dots.size();
    List<Integer> order = new ArrayList<>();
    for (int shade = 9; shade >= 1; shade--) {
      int w = shade;
      int sum = now.weights.stream().filter(o -> o == w).mapToInt(o -> o).sum();
      Fraction share = Fraction.of((long) now.dots.size() * sum, now.all());
      given[shade] = share.cut();
      cut[shade] = share.minus(Fraction.of(share.cut(), 1));
      left -= given[shade];
      order.add(shade);
    }
    order.sort((a, b) -> cut[b].compareTo(cut[a]));
    for (int i = 0; i < left; i++) {
      given[order.get(i)]++;
    }
    return given[s];
  }

  int best(int dot, int what) {
    if (!now.has(dot) || what < 0 || what > 1) {
      return NONE;
    }
    int[] found = {NONE, Integer.MAX_VALUE};
    for (int c = 0; c < now.size(); c++) {
      List<Dot> dots = new ArrayList<>(now.dots);
      dots.set(dot, now.cell(c));
      int cost = new View(now.with(dots)).cost();
      if (cost < found[1]) {
        found = new int[] {c, cost};
      }
    }
    return found[what];
  }

  int edge(int dot, int what) {
    if (!now.has(dot) || what < 0 || what > 2) {
      return NONE;
    }
    int farthest = NONE;
    int couples = 0;
    int atEdge = 0;
    for (int c : view().cellsOf(dot)) {
      if (farthest == NONE || now.distance(c, dot).compareTo(now.distance(farthest, dot)) > 0) {
        farthest = c;
      }
      int x = c % now.width;
      int y = c / now.width;
      atEdge += !now.holds(x - 1, y) || !now.holds(x + 1, y) || !now.holds(x, y - 1)
          || !now.holds(x, y + 1) ? 1 : 0;
      for (int o = 0; o < now.size(); o++) {
        couples += view().beside(c, o) && view().owner[o] != dot ? 1 : 0;
      }
    }
    return what == 0 ? farthest : what == 1 ? couples : atEdge;
  }

  int touch(int dot, int other) {
    if (!now.has(dot) || !now.has(other) || dot == other) {
      return NONE;
    }
    return view().couples(dot, other);
  }

  int way(int dot, int other) {
    if (!now.has(dot) || !now.has(other)) {
      return NONE;
    }
    Set<Integer> reached = new TreeSet<>(Set.of(dot));
    for (int made = 0; made <= 40; made++) {
      if (reached.contains(other)) {
        return made;
      }
      for (int from : new ArrayList<>(reached)) {
        for (int to = 0; to < now.dots.size(); to++) {
          if (!reached.contains(to) && view().couples(from, to) > 0) {
            reached.add(to);
          }
        }
      }
    }
    return NONE;
  }

  int shade(int s, int what) {
    if (s < 0 || s > 9 || what < 0 || what > 3) {
      return NONE;
    }
    int cells = 0;
    int cost = 0;
    Set<Integer> owners = new HashSet<>();
    for (int c = 0; c < now.size(); c++) {
      if (now.weights.get(c) == s) {
        cells++;
        cost += view().cost[c];
        if (!now.dots.isEmpty()) {
          owners.add(view().owner[c]);
        }
      }
    }
    int spots = 0;
    for (int d = 0; d < now.dots.size(); d++) {
      spots += now.weights.get(view().spot(d)) == s ? 1 : 0;
    }
    return new int[] {cells, spots, owners.size(), cost}[what];
  }

  int step(int dot) {
    if (!now.has(dot)) {
      return NONE;
    }
    return now.dots.get(dot).squareTo(view().round().dots.get(dot)).times(1000).cut();
  }

  int moves() {
    return now.dots.isEmpty() ? NONE : moved(now, view().round());
  }

  int till(int what) {
    if (now.dots.isEmpty() || what < 0 || what > 1) {
      return NONE;
    }
    Picture at = now;
    for (int made = 1; made <= 200; made++) {
      Picture next = new View(at).round();
      if (moved(at, next) == 0) {
        return what == 0 ? made : new View(next).cost();
      }
      at = next;
    }
    return NONE;
  }

  int steps(int k, int what) {
    if (k == NONE) {
      return steps.size();
    }
    if (k < 0 || k >= steps.size() || what < 0 || what > 1) {
      return NONE;
    }
    return new ArrayList<>(steps).get(k)[what];
  }

  int loss(int dot) {
    if (!now.has(dot) || now.dots.size() == 1) {
      return NONE;
    }
    List<Dot> dots = new ArrayList<>(now.dots);
    dots.remove(dot);
    return new View(now.with(dots)).cost() - view().cost();
  }

  int idle() {
    if (now.dots.size() < 2) {
      return NONE;
    }
    int found = 0;
    for (int d = 1; d < now.dots.size(); d++) {
      found = loss(d) < loss(found) ? d : found;
    }
    return found;
  }

  int more(int what) {
    if (now.dots.isEmpty() || what < 0 || what > 1) {
      return NONE;
    }
    int[] found = {NONE, Integer.MAX_VALUE};
    for (int c = 0; c < now.size(); c++) {
      List<Dot> dots = new ArrayList<>(now.dots);
      dots.add(now.cell(c));
      int cost = new View(now.with(dots)).cost();
      if (cost < found[1]) {
        found = new int[] {c, cost};
      }
    }
    return found[what];
  }

  int tone(int x, int y, int right, int down, int what) {
    if (!now.holds(x, y) || !now.holds(right, down) || right < x || down < y) {
      return NONE;
    }
    return what == 0 ? grey(x, y, right, down) : what == 1 ? spots(x, y, right, down) : NONE;
  }

  private int grey(int x, int y, int right, int down) {
    int sum = 0;
    for (int c = 0; c < now.size(); c++) {
      int cx = c % now.width;
      int cy = c / now.width;
      sum += x <= cx && cx <= right && y <= cy && cy <= down ? now.weights.get(c) : 0;
    }
    return sum;
  }

  int uneven(int n, int what) {
    int[] found = null;
    for (int c = 0; c < now.size() && n >= 1 && n <= 20; c++) {
      int x = c % now.width;
      int y = c / now.width;
      if (!now.holds(x + n - 1, y + n - 1)) {
        continue;
      }
      int by = spots(x, y, x + n - 1, y + n - 1) * now.all()
          - grey(x, y, x + n - 1, y + n - 1) * now.dots.size();
      if (found == null || Math.abs(by) > Math.abs(found[1])) {
        found = new int[] {c, by};
      }
    }
    return found == null || what < 0 || what > 1 ? Integer.MIN_VALUE : found[what];
  }

  int against(int box, int what) {
    if (box < 0 || box > 1 || boxes[box] == null || boxes[box].width != now.width
        || boxes[box].height != now.height || what < 0 || what > 2) {
      return NONE;
    }
    if (what == 2) {
      return moved(now, boxes[box]);
    }
    View kept = new View(boxes[box]);
    int found = 0;
    for (int c = 0; c < now.size(); c++) {
      boolean same = what == 0 ? kept.owner[c] == view().owner[c]
          : boxes[box].weights.get(c).equals(now.weights.get(c));
      found += same ? 0 : 1;
    }
    return found;
  }

  int image(int box) {
    if (box < 0 || box > 1) {
      return NONE;
    }
    boxes[box] = now;
    return now.dots.size();
  }

  int back(int box) {
    if (box < 0 || box > 1 || boxes[box] == null) {
      return NONE;
    }
    now = boxes[box];
    undo.clear();
    redo.clear();
    steps.clear();
    return now.dots.size();
  }

  int about(int what) {
    return switch (what) {
      case 0 -> now.width;
      case 1 -> now.height;
      case 2 -> now.dots.size();
      case 3 -> now.all();
      case 4 -> view().cost();
      case 5 -> {
        int empty = 0;
        for (int d = 0; d < now.dots.size(); d++) {
          empty += view().load(d) == 0 ? 1 : 0;
        }
        yield empty;
      }
      case 6 -> (int) now.seed;
      case 7 -> undo.size();
      case 8 -> redo.size();
      case 9 -> tape.size();
      default -> NONE;
    };
  }
}
