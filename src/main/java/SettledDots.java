import java.util.Arrays;

/**
 * Dots that settle on a grey picture. What each call answers is promised, by number, in the
 * document ../shared/DOC.md; its words in capitals (CELL, OWNER, ROUND ..) are used here too.
 */
public final class SettledDots {
    public static final int NONE = -1;

    private static final int CELLS_AT_MOST = 400;
    private static final int DOTS_AT_MOST = 40;
    private static final int SIDE_AT_MOST = 20;
    private static final int SIDE_AT_FIRST = 8;
    private static final int SHADES = 10;
    private static final int BOXES = 2;
    private static final int ROUNDS_AT_MOST = 100;
    private static final int LOAD_AT_MOST = 9999;
    private static final int RADIUS_AT_MOST = 30;
    private static final int NO_SQUARE = -2147483648;
    /** Above every COST and every number that stands for how far two DOTS are apart. */
    private static final int BOUNDLESS = 2147483647;

    private Scene now = new Scene();
    private final Field field = new Field();
    private boolean surveyed = false;
    private final Reader reader = new Reader();
    private final Past past = new Past();
    private final Track track = new Track();
    private final Ahead ahead = new Ahead();
    private final Prices prices = new Prices();
    private final Links links = new Links();
    private final Box[] boxes = new Box[BOXES];
    private final boolean[] busy = new boolean[CELLS_AT_MOST];
    private final int[] plan = new int[DOTS_AT_MOST];
    private final int[] shades = new int[SHADES];

    /** Promise 1. */
    public SettledDots() {
        for (int i = 0; i < BOXES; i++) {
            boxes[i] = new Box();
        }
    }

    // ---- the tape ----

    /** Promise 2. */
    public int feed(int a, int b, int c, int d, int e) {
        if (!reader.hasRoom()) {
            return NONE;
        }
        reader.append(a);
        reader.append(b);
        reader.append(c);
        reader.append(d);
        reader.append(e);
        return reader.length;
    }

    /** Promise 3. */
    public int end(int n) {
        if (n < 0 || n > reader.length) {
            return NONE;
        }
        reader.length = n;
        return n;
    }

    /** Promise 4. */
    public int picture() {
        if (!reader.read()) {
            return NONE;
        }
        now = reader.handOver(now);
        for (int i = 0; i < BOXES; i++) {
            boxes[i].full = false;
        }
        startAnew();
        return now.count;
    }

    /** Promise 5. */
    public int fault(int what) {
        switch (what) {
            case 0: return reader.mistake;
            case 1: return reader.place;
            default: return NONE;
        }
    }

    // ---- acts ----

    /** Promise 6. */
    public int put(int x, int y) {
        if (!now.holds(x, y) || now.count >= DOTS_AT_MOST) {
            return NONE;
        }
        beginAct();
        now.add(x, y);
        return now.count - 1;
    }

    /** Promise 7. */
    public int take(int dot) {
        if (!now.has(dot)) {
            return NONE;
        }
        beginAct();
        now.remove(dot);
        return now.count;
    }

    /** Promise 8. */
    public boolean move(int dot, int x, int y) {
        if (!now.has(dot) || !now.holds(x, y) || now.liesJustAt(dot, x, y)) {
            return false;
        }
        beginAct();
        now.place(dot, x, y, 1);
        return true;
    }

    /** Promise 9. */
    public int draw(int n) {
        if (n < 1 || n > DOTS_AT_MOST || now.count + n > DOTS_AT_MOST) {
            return NONE;
        }
        now.markBusy(busy);
        if (now.freeGreyCells(busy) < n) {
            return NONE;
        }
        beginAct();
        for (int i = 0; i < n; i++) {
            now.drawOne(busy);
        }
        return now.count;
    }

    /** Promise 10. */
    public int seed(int s) {
        if (s < 0) {
            return NONE;
        }
        int was = now.grain;
        now.grain = s;
        return was;
    }

    /** Promise 11. */
    public int paint(int x, int y, int weight) {
        if (!now.holds(x, y) || weight < 0 || weight >= SHADES) {
            return NONE;
        }
        int was = now.weightAt(x, y);
        if (was == weight) {
            return NONE;
        }
        beginAct();
        now.weight[y * now.width + x] = weight;
        return was;
    }

    /** Promise 12. */
    public int rounds(int n) {
        if (n < 1 || n > ROUNDS_AT_MOST || now.count == 0) {
            return NONE;
        }
        Field seen = upToDate();
        past.keep(now);
        ahead.forget();
        int made = 0;
        int moved = NONE;
        for (int i = 0; i < n && moved != 0; i++) {
            int costAhead = seen.total;
            moved = seen.round(now);
            track.add(moved, costAhead);
            made++;
        }
        return made;
    }

    /** Promise 13. */
    public int adapt(int low, int high) {
        if (low < 0 || high < low || high > LOAD_AT_MOST) {
            return NONE;
        }
        Field seen = upToDate();
        int left = countLeft(seen, low);
        int added = planAdded(seen, left, high);
        if (left == now.count && added == 0) {
            return NONE;
        }
        beginAct();
        // By the LOADS from before; from behind, so that the numbers still to come stay right.
        for (int dot = now.count - 1; dot >= 0; dot--) {
            if (seen.load[dot] < low) {
                now.remove(dot);
            }
        }
        for (int i = 0; i < added; i++) {
            now.add(now.columnOf(plan[i]), now.rowOf(plan[i]));
        }
        return now.count;
    }

    /** Promise 14. */
    public int turn() {
        Scene was = beginAct();
        now.becomeQuarterTurnOf(was);
        return now.width;
    }

    /** Promise 15. */
    public boolean undo() {
        if (past.undoable == 0) {
            return false;
        }
        now = past.swapBack(now);
        forgetWhatWasSeen();
        track.clear();
        return true;
    }

    /** Promise 16. */
    public boolean redo() {
        if (past.redoable == 0) {
            return false;
        }
        now = past.swapForth(now);
        forgetWhatWasSeen();
        track.clear();
        return true;
    }

    // ---- who owns what ----

    /** Promise 17. */
    public int dot(int dot, int what) {
        if (!now.has(dot)) {
            return NONE;
        }
        switch (what) {
            case 0: return now.across[dot];
            case 1: return now.down[dot];
            case 2: return now.parts[dot];
            case 3: return upToDate().cells[dot];
            case 4: return upToDate().load[dot];
            case 5: return upToDate().bill[dot];
            case 6: return now.spotOf(dot);
            case 7: return links.piecesOf(dot, now, upToDate());
            default: return NONE;
        }
    }

    /** Promise 18. */
    public int cell(int x, int y, int what) {
        if (!now.holds(x, y)) {
            return NONE;
        }
        int number = now.numberOf(x, y);
        switch (what) {
            case 0: return now.weight[number];
            case 1: return upToDate().owner[number];
            case 2: return upToDate().cost[number];
            case 3: return now.spotsWithin(x, y, x, y);
            default: return NONE;
        }
    }

    /** Promise 19. */
    public int near(int x, int y, int k) {
        if (!now.holds(x, y) || !now.has(k)) {
            return NONE;
        }
        for (int dot = 0; dot < now.count; dot++) {
            if (now.dotsAheadOf(dot, x, y) == k) {
                return dot;
            }
        }
        return NONE;
    }

    /** Promise 20. */
    public int far(int x, int y, int dot, int what) {
        if (!now.holds(x, y) || !now.has(dot)) {
            return NONE;
        }
        long gap = now.gap(dot, x, y);
        long span = now.span(dot);
        switch (what) {
            case 0: return (int) divide(gap, span);
            case 1: return (int) divide((gap - divide(gap, span) * span) * 1000, span);
            default: return NONE;
        }
    }

    /** Promise 21. */
    public int around(int x, int y, int r) {
        if (!now.holds(x, y) || r < 0 || r > RADIUS_AT_MOST) {
            return NONE;
        }
        int found = 0;
        for (int dot = 0; dot < now.count; dot++) {
            if (now.gap(dot, x, y) <= (long) r * r * now.span(dot)) {
                found++;
            }
        }
        return found;
    }

    /** Promise 22. */
    public int ring(int x, int y) {
        if (!now.holds(x, y) || now.count == 0) {
            return NONE;
        }
        int owner = upToDate().owner[now.numberOf(x, y)];
        if (!now.has(owner)) {
            return NONE;
        }
        int column = (int) divide(now.across[owner], now.parts[owner]);
        int row = (int) divide(now.down[owner], now.parts[owner]);
        return Math.max(Math.abs(column - x), Math.abs(row - y));
    }

    /** Promise 23. */
    public int closest(int what) {
        if (now.count < 2 || what < 0 || what > 2) {
            return NONE;
        }
        long least = BOUNDLESS;
        int lesser = 0;
        int greater = 0;
        for (int i = 0; i < now.count; i++) {
            for (int j = i + 1; j < now.count; j++) {
                long apart = now.apart(i, now, j);
                if (apart < least) {
                    least = apart;
                    lesser = i;
                    greater = j;
                }
            }
        }
        switch (what) {
            case 0: return (int) least;
            case 1: return lesser;
            default: return greater;
        }
    }

    /** Promise 24. */
    public int loads(int what) {
        if (now.count == 0) {
            return NONE;
        }
        Field seen = upToDate();
        switch (what) {
            case 0: return seen.load[firstGreatest(seen.load)];
            case 1: return leastOf(seen.load);
            case 2: return firstGreatest(seen.load);
            case 3: return firstGreatest(seen.bill);
            default: return NONE;
        }
    }

    /** Promise 25. */
    public int ties(int x, int y) {
        if (!now.holds(x, y) || now.count == 0) {
            return NONE;
        }
        Field seen = upToDate();
        int number = now.numberOf(x, y);
        int found = 0;
        for (int dot = 0; dot < now.count; dot++) {
            if (now.gap(dot, x, y) * seen.span[number] == seen.gap[number] * now.span(dot)) {
                found++;
            }
        }
        return found;
    }

    /** Promise 26. */
    public int due(int s) {
        if (s < 1 || s >= SHADES) {
            return NONE;
        }
        now.sumByShade(shades);
        int all = 0;
        for (int shade = 1; shade < SHADES; shade++) {
            all += shades[shade];
        }
        if (all == 0) {
            return 0;
        }
        int given = 0;
        int aheadOfIt = 0;
        int cutOfIt = now.count * shades[s] % all;
        for (int shade = 1; shade < SHADES; shade++) {
            given += now.count * shades[shade] / all;
            int cut = now.count * shades[shade] % all;
            if (cut > cutOfIt || cut == cutOfIt && shade > s) {
                aheadOfIt++;
            }
        }
        int left = now.count - given;
        return now.count * shades[s] / all + (aheadOfIt < left ? 1 : 0);
    }

    /** Promise 27. */
    public int best(int dot, int what) {
        if (!now.has(dot) || what < 0 || what > 1) {
            return NONE;
        }
        prices.leaveOut(dot, now, upToDate());
        prices.findCheapest(now);
        return what == 0 ? prices.cheapestCell : prices.cheapestCost;
    }

    // ---- who lies beside whom ----

    /** Promise 28. */
    public int edge(int dot, int what) {
        if (!now.has(dot)) {
            return NONE;
        }
        switch (what) {
            case 0: return upToDate().farthestOf(dot, now);
            case 1:
                links.countCouples(now, upToDate());
                return links.couplesOf(dot, now.count);
            case 2: return upToDate().cellsAtEdge(dot, now);
            default: return NONE;
        }
    }

    /** Promise 29. */
    public int touch(int dot, int other) {
        if (!now.has(dot) || !now.has(other) || dot == other) {
            return NONE;
        }
        links.countCouples(now, upToDate());
        return links.couplesOfTwo(dot, other);
    }

    /** Promise 30. */
    public int way(int dot, int other) {
        if (!now.has(dot) || !now.has(other)) {
            return NONE;
        }
        links.countCouples(now, upToDate());
        return links.fewestSteps(dot, other, now.count);
    }

    /** Promise 31. */
    public int shade(int s, int what) {
        if (s < 0 || s >= SHADES) {
            return NONE;
        }
        switch (what) {
            case 0: return cellsOfShade(s);
            case 1: return spotsOfShade(s);
            case 2: return ownersOfShade(s);
            case 3: return costOfShade(s);
            default: return NONE;
        }
    }

    // ---- rounds to come, rounds that were made ----

    /** Promise 32. */
    public int step(int dot) {
        if (!now.has(dot)) {
            return NONE;
        }
        ahead.lookOne(now);
        return (int) now.apart(dot, ahead.next, dot);
    }

    /** Promise 33. */
    public int moves() {
        if (now.count == 0) {
            return NONE;
        }
        ahead.lookOne(now);
        return ahead.moved;
    }

    /** Promise 34. */
    public int till(int what) {
        if (now.count == 0) {
            return NONE;
        }
        switch (what) {
            case 0:
                ahead.lookToEnd(now);
                return ahead.roundsToCome;
            case 1:
                ahead.lookToEnd(now);
                return ahead.costThen;
            default:
                return NONE;
        }
    }

    /** Promise 35. */
    public int steps(int k, int what) {
        if (k == NONE) {
            return track.count;
        }
        if (k < 0 || k >= track.count) {
            return NONE;
        }
        switch (what) {
            case 0: return track.movedAt(k);
            case 1: return track.costAt(k);
            default: return NONE;
        }
    }

    // ---- what a dot less or more would cost ----

    /** Promise 36. */
    public int loss(int dot) {
        if (!now.has(dot) || now.count < 2) {
            return NONE;
        }
        prices.leaveOut(dot, now, upToDate());
        return prices.sum(now) - field.total;
    }

    /** Promise 37. */
    public int idle() {
        if (now.count < 2) {
            return NONE;
        }
        int found = 0;
        int least = BOUNDLESS;
        for (int dot = 0; dot < now.count; dot++) {
            prices.leaveOut(dot, now, upToDate());
            int without = prices.sum(now);
            if (without < least) {
                least = without;
                found = dot;
            }
        }
        return found;
    }

    /** Promise 38. */
    public int more(int what) {
        if (now.count == 0 || what < 0 || what > 1) {
            return NONE;
        }
        prices.leaveOut(NONE, now, upToDate());
        prices.findCheapest(now);
        return what == 0 ? prices.cheapestCell : prices.cheapestCost;
    }

    // ---- how much grey is drawn ----

    /** Promise 39. */
    public int tone(int x, int y, int right, int down, int what) {
        if (!now.holds(x, y) || !now.holds(right, down) || x > right || y > down) {
            return NONE;
        }
        switch (what) {
            case 0: return now.greyWithin(x, y, right, down);
            case 1: return now.spotsWithin(x, y, right, down);
            default: return NONE;
        }
    }

    /** Promise 40. */
    public int uneven(int n, int what) {
        if (n < 1 || n > now.width || n > now.height || what < 0 || what > 1) {
            return NO_SQUARE;
        }
        int all = now.greyWithin(0, 0, now.width - 1, now.height - 1);
        int found = 0;
        int furthest = 0;
        for (int y = 0; y + n <= now.height; y++) {
            for (int x = 0; x + n <= now.width; x++) {
                int drawn = now.spotsWithin(x, y, x + n - 1, y + n - 1) * all;
                int wanted = now.greyWithin(x, y, x + n - 1, y + n - 1) * now.count;
                if (Math.abs(drawn - wanted) > Math.abs(furthest)) {
                    furthest = drawn - wanted;
                    found = now.numberOf(x, y);
                }
            }
        }
        return what == 0 ? found : furthest;
    }

    // ---- pictures that are kept ----

    /** Promise 41. */
    public int against(int box, int what) {
        if (!isBox(box) || !boxes[box].full || !boxes[box].scene.isAsLargeAs(now)) {
            return NONE;
        }
        switch (what) {
            case 0: return boxes[box].otherOwners(now, upToDate());
            case 1: return boxes[box].otherWeights(now);
            case 2: return boxes[box].otherDots(now);
            default: return NONE;
        }
    }

    /** Promise 42. */
    public int image(int box) {
        if (!isBox(box)) {
            return NONE;
        }
        boxes[box].keep(now, upToDate());
        return now.count;
    }

    /** Promise 43. */
    public int back(int box) {
        if (!isBox(box) || !boxes[box].full) {
            return NONE;
        }
        now.copy(boxes[box].scene);
        startAnew();
        return now.count;
    }

    /** Promise 44. */
    public int about(int what) {
        switch (what) {
            case 0: return now.width;
            case 1: return now.height;
            case 2: return now.count;
            case 3: return now.greyWithin(0, 0, now.width - 1, now.height - 1);
            case 4: return upToDate().total;
            case 5: return emptyDots();
            case 6: return now.grain;
            case 7: return past.undoable;
            case 8: return past.redoable;
            case 9: return reader.length;
            default: return NONE;
        }
    }

    // ---- helpers of the calls above ----

    /** The field of the picture as it is; acts only mark it as old, so that a row of them is cheap. */
    private Field upToDate() {
        if (!surveyed) {
            field.survey(now);
            surveyed = true;
        }
        return field;
    }

    private void forgetWhatWasSeen() {
        surveyed = false;
        ahead.forget();
    }

    /** Every ACT but ROUNDS starts here; answers the picture as it was, which UNDO gives back. */
    private Scene beginAct() {
        Scene was = past.keep(now);
        track.clear();
        forgetWhatWasSeen();
        return was;
    }

    private void startAnew() {
        past.clear();
        track.clear();
        forgetWhatWasSeen();
    }

    private static boolean isBox(int box) {
        return box >= 0 && box < BOXES;
    }

    private int countLeft(Field seen, int low) {
        int left = 0;
        for (int dot = 0; dot < now.count; dot++) {
            if (seen.load[dot] >= low) {
                left++;
            }
        }
        return left;
    }

    /** Writes the CELLS of the DOTS to add into the plan; answers how many. */
    private int planAdded(Field seen, int left, int high) {
        int added = 0;
        for (int dot = 0; dot < now.count && left + added < DOTS_AT_MOST; dot++) {
            // High is not below low: those above it are left.
            if (seen.load[dot] <= high) {
                continue;
            }
            int worst = seen.worstOf(dot, now);
            if (worst != NONE) {
                plan[added] = worst;
                added++;
            }
        }
        return added;
    }

    private int firstGreatest(int[] ofDots) {
        int found = 0;
        for (int dot = 1; dot < now.count; dot++) {
            if (ofDots[dot] > ofDots[found]) {
                found = dot;
            }
        }
        return found;
    }

    private int leastOf(int[] ofDots) {
        int least = BOUNDLESS;
        for (int dot = 0; dot < now.count; dot++) {
            least = Math.min(least, ofDots[dot]);
        }
        return least;
    }

    private int emptyDots() {
        int empty = 0;
        for (int dot = 0; dot < now.count; dot++) {
            if (upToDate().load[dot] == 0) {
                empty++;
            }
        }
        return empty;
    }

    private int cellsOfShade(int s) {
        int found = 0;
        for (int number = 0; number < now.size(); number++) {
            if (now.weight[number] == s) {
                found++;
            }
        }
        return found;
    }

    private int spotsOfShade(int s) {
        int found = 0;
        for (int dot = 0; dot < now.count; dot++) {
            if (now.weight[now.spotOf(dot)] == s) {
                found++;
            }
        }
        return found;
    }

    private int ownersOfShade(int s) {
        int found = 0;
        for (int dot = 0; dot < now.count; dot++) {
            if (upToDate().ownsShade(dot, s, now)) {
                found++;
            }
        }
        return found;
    }

    private int costOfShade(int s) {
        int sum = 0;
        for (int number = 0; number < now.size(); number++) {
            if (now.weight[number] == s) {
                sum += upToDate().cost[number];
            }
        }
        return sum;
    }

    private static long divide(long number, long by) {
        return by > 0 ? number / by : 0;
    }

    /** COST of a CELL whose DISTANCE to its OWNER is gap / span. */
    private static int price(int weight, long gap, long span) {
        return span > 0 ? (int) (weight * 1000L * gap / span) : 0;
    }

    /** A picture: its CELLS' WEIGHTS, its DOTS, the seed. */
    private static final class Scene {
        private static final long FACTOR = 1103515245L;
        private static final long SUMMAND = 12345L;
        private static final long SEED_MASK = 2147483647L;
        private static final int DIVISIONS_AT_MOST = 64;

        int width = SIDE_AT_FIRST;
        int height = SIDE_AT_FIRST;
        int count = 0;
        int grain = 0;
        final int[] weight = new int[CELLS_AT_MOST];
        final int[] across = new int[DOTS_AT_MOST];
        final int[] down = new int[DOTS_AT_MOST];
        final int[] parts = new int[DOTS_AT_MOST];

        void clear() {
            width = SIDE_AT_FIRST;
            height = SIDE_AT_FIRST;
            count = 0;
            grain = 0;
            Arrays.fill(weight, 0);
        }

        void copy(Scene from) {
            width = from.width;
            height = from.height;
            count = from.count;
            grain = from.grain;
            System.arraycopy(from.weight, 0, weight, 0, CELLS_AT_MOST);
            System.arraycopy(from.across, 0, across, 0, DOTS_AT_MOST);
            System.arraycopy(from.down, 0, down, 0, DOTS_AT_MOST);
            System.arraycopy(from.parts, 0, parts, 0, DOTS_AT_MOST);
        }

        void becomeQuarterTurnOf(Scene from) {
            width = from.height;
            height = from.width;
            for (int y = 0; y < from.height; y++) {
                for (int x = 0; x < from.width; x++) {
                    weight[x * width + from.height - 1 - y] = from.weight[y * from.width + x];
                }
            }
            for (int dot = 0; dot < count; dot++) {
                across[dot] = (from.height - 1) * from.parts[dot] - from.down[dot];
                down[dot] = from.across[dot];
            }
        }

        int size() {
            return width * height;
        }

        boolean isAsLargeAs(Scene other) {
            return width == other.width && height == other.height;
        }

        boolean holds(int x, int y) {
            return x >= 0 && x < width && y >= 0 && y < height;
        }

        boolean has(int dot) {
            return dot >= 0 && dot < count;
        }

        int numberOf(int x, int y) {
            return y * width + x;
        }

        int columnOf(int number) {
            return width > 0 ? number % width : 0;
        }

        int rowOf(int number) {
            return width > 0 ? number / width : 0;
        }

        int weightAt(int x, int y) {
            return weight[y * width + x];
        }

        void add(int x, int y) {
            if (count < DOTS_AT_MOST) {
                count++;
                place(count - 1, x, y, 1);
            }
        }

        void remove(int dot) {
            for (int i = dot; i < count - 1; i++) {
                across[i] = across[i + 1];
                down[i] = down[i + 1];
                parts[i] = parts[i + 1];
            }
            count--;
        }

        /** The DOT lies at wide / part, deep / part then; answers whether it lay elsewhere. */
        boolean place(int dot, int wide, int deep, int part) {
            int common = commonDivisor(commonDivisor(wide, deep), part);
            if (common < 1) {
                return false;
            }
            int x = wide / common;
            int y = deep / common;
            int d = part / common;
            boolean moved = across[dot] != x || down[dot] != y || parts[dot] != d;
            across[dot] = x;
            down[dot] = y;
            parts[dot] = d;
            return moved;
        }

        private static int commonDivisor(int a, int b) {
            int greater = a;
            int lesser = b;
            for (int i = 0; i < DIVISIONS_AT_MOST && lesser != 0; i++) {
                int rest = greater % lesser;
                greater = lesser;
                lesser = rest;
            }
            return greater;
        }

        boolean liesJustAt(int dot, int x, int y) {
            return parts[dot] == 1 && across[dot] == x && down[dot] == y;
        }

        boolean liesAsIn(int dot, Scene other) {
            return across[dot] == other.across[dot] && down[dot] == other.down[dot]
                && parts[dot] == other.parts[dot];
        }

        /** DISTANCE of a CELL and a DOT is gap / span: whole numbers, so that nothing is rounded. */
        long gap(int dot, int x, int y) {
            long right = (long) x * parts[dot] - across[dot];
            long below = (long) y * parts[dot] - down[dot];
            return right * right + below * below;
        }

        long span(int dot) {
            return (long) parts[dot] * parts[dot];
        }

        /** How far two DOTS are apart, squared, a thousand times, cut. */
        long apart(int dot, Scene other, int otherDot) {
            long right = (long) across[dot] * other.parts[otherDot]
                - (long) other.across[otherDot] * parts[dot];
            long below = (long) down[dot] * other.parts[otherDot]
                - (long) other.down[otherDot] * parts[dot];
            long sum = right * right + below * below;
            long both = span(dot) * other.span(otherDot);
            long whole = divide(sum, both);
            // The thousandths by themselves: a thousand times the whole sum would not fit a long.
            return whole * 1000 + divide((sum - whole * both) * 1000, both);
        }

        /** How many DOTS come ahead of a DOT, counted by DISTANCE from a CELL, then by number. */
        int dotsAheadOf(int dot, int x, int y) {
            long gap = gap(dot, x, y);
            long span = span(dot);
            int found = 0;
            for (int other = 0; other < count; other++) {
                long its = gap(other, x, y) * span;
                long mine = gap * span(other);
                if (its < mine || its == mine && other < dot) {
                    found++;
                }
            }
            return found;
        }

        private int spotColumn(int dot) {
            return nearestWhole(across[dot], parts[dot]);
        }

        private int spotRow(int dot) {
            return nearestWhole(down[dot], parts[dot]);
        }

        /** Just between two, the lesser one: so the SPOT has the least NUMBER. */
        private static int nearestWhole(int number, int part) {
            return part > 0 ? (2 * number + part - 1) / (2 * part) : 0;
        }

        int spotOf(int dot) {
            return numberOf(spotColumn(dot), spotRow(dot));
        }

        int spotsWithin(int left, int top, int right, int bottom) {
            int found = 0;
            for (int dot = 0; dot < count; dot++) {
                int x = spotColumn(dot);
                int y = spotRow(dot);
                if (x >= left && x <= right && y >= top && y <= bottom) {
                    found++;
                }
            }
            return found;
        }

        int greyWithin(int left, int top, int right, int bottom) {
            int sum = 0;
            for (int y = top; y <= bottom; y++) {
                for (int x = left; x <= right; x++) {
                    sum += weight[y * width + x];
                }
            }
            return sum;
        }

        void sumByShade(int[] sums) {
            Arrays.fill(sums, 0);
            for (int number = 0; number < size(); number++) {
                sums[weight[number]] += weight[number];
            }
        }

        /** Marks the CELLS at which a DOT lies just there. */
        void markBusy(boolean[] busy) {
            for (int number = 0; number < size(); number++) {
                busy[number] = false;
            }
            for (int dot = 0; dot < count; dot++) {
                if (parts[dot] == 1) {
                    busy[numberOf(across[dot], down[dot])] = true;
                }
            }
        }

        int freeGreyCells(boolean[] busy) {
            int found = 0;
            for (int number = 0; number < size(); number++) {
                if (!busy[number] && weight[number] > 0) {
                    found++;
                }
            }
            return found;
        }

        void drawOne(boolean[] busy) {
            int all = 0;
            for (int number = 0; number < size(); number++) {
                all += busy[number] ? 0 : weight[number];
            }
            int drawn = drawBelow(all);
            int sum = 0;
            for (int number = 0; number < size(); number++) {
                sum += busy[number] ? 0 : weight[number];
                if (sum > drawn) {
                    busy[number] = true;
                    add(columnOf(number), rowOf(number));
                    return;
                }
            }
        }

        /** A DRAW. */
        private int drawBelow(int bound) {
            grain = (int) ((grain * FACTOR + SUMMAND) & SEED_MASK);
            return bound > 0 ? (grain >> 16) % bound : 0;
        }
    }

    /** What follows from where the DOTS of a picture lie: OWNERS, LOADS, COSTS; and the ROUND. */
    private static final class Field {
        final int[] owner = new int[CELLS_AT_MOST];
        final long[] gap = new long[CELLS_AT_MOST];
        final long[] span = new long[CELLS_AT_MOST];
        final int[] cost = new int[CELLS_AT_MOST];
        final int[] cells = new int[DOTS_AT_MOST];
        final int[] load = new int[DOTS_AT_MOST];
        final int[] bill = new int[DOTS_AT_MOST];
        private final int[] sumAcross = new int[DOTS_AT_MOST];
        private final int[] sumDown = new int[DOTS_AT_MOST];
        int total = 0;

        void survey(Scene scene) {
            wipeOwners();
            for (int dot = 0; dot < scene.count; dot++) {
                offer(dot, scene);
            }
            addUp(scene);
        }

        /** Makes a ROUND; the field must be the scene's, and is so again. Answers how many MOVED. */
        int round(Scene scene) {
            int moved = 0;
            wipeOwners();
            for (int dot = 0; dot < scene.count; dot++) {
                if (load[dot] > 0) {
                    if (scene.place(dot, sumAcross[dot], sumDown[dot], load[dot])) {
                        moved++;
                    }
                    offer(dot, scene);
                }
            }
            for (int dot = 0; dot < scene.count; dot++) {
                if (load[dot] == 0) {
                    int worst = worstOf(NONE, scene);
                    if (worst != NONE
                        && scene.place(dot, scene.columnOf(worst), scene.rowOf(worst), 1)) {
                        moved++;
                    }
                    offer(dot, scene);
                }
            }
            addUp(scene);
            return moved;
        }

        /** Without an OWNER a CELL's DISTANCE is 1 / 0: any DOT that is offered is nearer. */
        private void wipeOwners() {
            Arrays.fill(owner, NONE);
            Arrays.fill(gap, 1L);
            Arrays.fill(span, 0L);
        }

        /** Each CELL to which the DOT is nearer than its OWNER so far becomes the DOT's. */
        private void offer(int dot, Scene scene) {
            long part = scene.parts[dot];
            long square = part * part;
            int number = 0;
            for (int y = 0; y < scene.height; y++) {
                long below = y * part - scene.down[dot];
                long deep = below * below;
                long right = -scene.across[dot];
                for (int x = 0; x < scene.width; x++) {
                    long far = right * right + deep;
                    long mine = far * span[number];
                    long its = gap[number] * square;
                    if (mine < its || mine == its && dot < owner[number]) {
                        owner[number] = dot;
                        gap[number] = far;
                        span[number] = square;
                    }
                    right += part;
                    number++;
                }
            }
        }

        private void addUp(Scene scene) {
            total = 0;
            Arrays.fill(cells, 0);
            Arrays.fill(load, 0);
            Arrays.fill(bill, 0);
            Arrays.fill(sumAcross, 0);
            Arrays.fill(sumDown, 0);
            int number = 0;
            for (int y = 0; y < scene.height; y++) {
                for (int x = 0; x < scene.width; x++) {
                    addCell(number, x, y, scene.weight[number]);
                    number++;
                }
            }
        }

        private void addCell(int number, int x, int y, int weight) {
            int dot = owner[number];
            if (dot == NONE) {
                cost[number] = 0;
                return;
            }
            int price = weight == 0 ? 0 : price(weight, gap[number], span[number]);
            cost[number] = price;
            total += price;
            cells[dot]++;
            load[dot] += weight;
            bill[dot] += price;
            sumAcross[dot] += weight * x;
            sumDown[dot] += weight * y;
        }

        /**
         * The CELL with the greatest WEIGHT * DISTANCE to its OWNER, among those of a DOT or,
         * for NONE, among all; NONE if that is not above 0.
         */
        int worstOf(int dot, Scene scene) {
            int found = NONE;
            long most = 0;
            long under = 1;
            for (int number = 0; number < scene.size(); number++) {
                if (owner[number] == NONE || dot != NONE && owner[number] != dot) {
                    continue;
                }
                long its = scene.weight[number] * gap[number];
                if (its * under > most * span[number]) {
                    found = number;
                    most = its;
                    under = span[number];
                }
            }
            return found;
        }

        int farthestOf(int dot, Scene scene) {
            int found = NONE;
            for (int number = 0; number < scene.size(); number++) {
                // All are the DOT's own, so that all have one span.
                if (owner[number] == dot && (found == NONE || gap[number] > gap[found])) {
                    found = number;
                }
            }
            return found;
        }

        int cellsAtEdge(int dot, Scene scene) {
            int found = 0;
            for (int y = 0; y < scene.height; y++) {
                for (int x = 0; x < scene.width; x++) {
                    boolean atEdge = x == 0 || y == 0 || x == scene.width - 1
                        || y == scene.height - 1;
                    if (atEdge && owner[scene.numberOf(x, y)] == dot) {
                        found++;
                    }
                }
            }
            return found;
        }

        boolean ownsShade(int dot, int s, Scene scene) {
            for (int number = 0; number < scene.size(); number++) {
                if (owner[number] == dot && scene.weight[number] == s) {
                    return true;
                }
            }
            return false;
        }
    }

    /** What CELLS would cost, were a DOT away, or one more there. */
    private static final class Prices {
        private final int[] rest = new int[CELLS_AT_MOST];
        int cheapestCell = 0;
        int cheapestCost = 0;

        /** The CELLS' costs without a DOT (NONE: with all); without any DOT left, no price is higher. */
        void leaveOut(int dot, Scene scene, Field field) {
            int number = 0;
            for (int y = 0; y < scene.height; y++) {
                for (int x = 0; x < scene.width; x++) {
                    rest[number] = dot != NONE && field.owner[number] == dot
                        ? priceOfOthers(dot, x, y, scene) : field.cost[number];
                    number++;
                }
            }
        }

        private static int priceOfOthers(int dot, int x, int y, Scene scene) {
            int weight = scene.weightAt(x, y);
            if (weight == 0) {
                return 0;
            }
            int least = BOUNDLESS;
            for (int other = 0; other < scene.count; other++) {
                if (other != dot) {
                    int its = price(weight, scene.gap(other, x, y), scene.span(other));
                    least = Math.min(least, its);
                }
            }
            return least;
        }

        int sum(Scene scene) {
            int sum = 0;
            for (int number = 0; number < scene.size(); number++) {
                sum += rest[number];
            }
            return sum;
        }

        /** The first CELL at which one DOT more makes the sum of the costs least. */
        void findCheapest(Scene scene) {
            cheapestCell = 0;
            cheapestCost = BOUNDLESS;
            for (int y = 0; y < scene.height; y++) {
                for (int x = 0; x < scene.width; x++) {
                    int sum = sumWithOneAt(x, y, scene);
                    if (sum < cheapestCost) {
                        cheapestCost = sum;
                        cheapestCell = scene.numberOf(x, y);
                    }
                }
            }
        }

        /** Stops as soon as the sum is no longer below the cheapest so far. */
        private int sumWithOneAt(int column, int row, Scene scene) {
            int sum = 0;
            int number = 0;
            for (int y = 0; y < scene.height && sum < cheapestCost; y++) {
                int deep = (y - row) * (y - row);
                for (int x = 0; x < scene.width; x++) {
                    if (rest[number] > 0) {
                        int far = deep + (x - column) * (x - column);
                        sum += Math.min(rest[number], scene.weight[number] * 1000 * far);
                    }
                    number++;
                }
            }
            return sum;
        }
    }

    /** Which DOTS' CELLS lie side by side. */
    private static final class Links {
        private final int[] couples = new int[DOTS_AT_MOST * DOTS_AT_MOST];
        private final int[] queue = new int[DOTS_AT_MOST];
        private final int[] stepsTo = new int[DOTS_AT_MOST];
        private final boolean[] open = new boolean[CELLS_AT_MOST];
        private final int[] stack = new int[CELLS_AT_MOST];
        private int top = 0;

        void countCouples(Scene scene, Field field) {
            Arrays.fill(couples, 0);
            for (int y = 0; y < scene.height; y++) {
                for (int x = 0; x < scene.width; x++) {
                    int number = scene.numberOf(x, y);
                    if (x + 1 < scene.width) {
                        join(field.owner[number], field.owner[number + 1]);
                    }
                    if (y + 1 < scene.height) {
                        join(field.owner[number], field.owner[number + scene.width]);
                    }
                }
            }
        }

        private void join(int dot, int other) {
            if (dot != NONE && other != NONE && dot != other) {
                couples[dot * DOTS_AT_MOST + other]++;
                couples[other * DOTS_AT_MOST + dot]++;
            }
        }

        int couplesOfTwo(int dot, int other) {
            return couples[dot * DOTS_AT_MOST + other];
        }

        int couplesOf(int dot, int count) {
            int sum = 0;
            for (int other = 0; other < count; other++) {
                sum += couplesOfTwo(dot, other);
            }
            return sum;
        }

        int fewestSteps(int from, int to, int count) {
            Arrays.fill(stepsTo, NONE);
            stepsTo[from] = 0;
            queue[0] = from;
            int last = 1;
            for (int first = 0; first < last && first < DOTS_AT_MOST; first++) {
                int dot = queue[first];
                for (int other = 0; other < count && last < DOTS_AT_MOST; other++) {
                    if (stepsTo[other] == NONE && couplesOfTwo(dot, other) > 0) {
                        stepsTo[other] = stepsTo[dot] + 1;
                        queue[last] = other;
                        last++;
                    }
                }
            }
            return stepsTo[to];
        }

        int piecesOf(int dot, Scene scene, Field field) {
            for (int number = 0; number < scene.size(); number++) {
                open[number] = field.owner[number] == dot;
            }
            int pieces = 0;
            for (int number = 0; number < scene.size(); number++) {
                if (open[number]) {
                    pieces++;
                    clearPiece(number, scene);
                }
            }
            return pieces;
        }

        private void clearPiece(int start, Scene scene) {
            top = 0;
            push(start);
            // Each CELL is pushed once at the most, so there are no more than CELLS to look at.
            for (int i = 0; i < CELLS_AT_MOST && top > 0; i++) {
                top--;
                int number = stack[top];
                int x = scene.columnOf(number);
                int y = scene.rowOf(number);
                if (x > 0) {
                    push(number - 1);
                }
                if (x + 1 < scene.width) {
                    push(number + 1);
                }
                if (y > 0) {
                    push(number - scene.width);
                }
                if (y + 1 < scene.height) {
                    push(number + scene.width);
                }
            }
        }

        private void push(int number) {
            if (open[number] && top < CELLS_AT_MOST) {
                open[number] = false;
                stack[top] = number;
                top++;
            }
        }
    }

    /** Pictures ahead of the ACTS that are kept, and behind those that were taken back. */
    private static final class Past {
        private static final int KEPT_AT_MOST = 12;

        private final Scene[] slots = new Scene[KEPT_AT_MOST];
        private int oldest = 0;
        int undoable = 0;
        int redoable = 0;

        Past() {
            for (int i = 0; i < KEPT_AT_MOST; i++) {
                slots[i] = new Scene();
            }
        }

        void clear() {
            undoable = 0;
            redoable = 0;
        }

        /** Keeps a copy ahead of an ACT, and answers it. */
        Scene keep(Scene scene) {
            redoable = 0;
            if (undoable == KEPT_AT_MOST) {
                oldest = (oldest + 1) % KEPT_AT_MOST;
                undoable--;
            }
            Scene copy = slots[slotOf(undoable)];
            copy.copy(scene);
            undoable++;
            return copy;
        }

        Scene swapBack(Scene scene) {
            undoable--;
            redoable++;
            return swap(slotOf(undoable), scene);
        }

        Scene swapForth(Scene scene) {
            int slot = slotOf(undoable);
            undoable++;
            redoable--;
            return swap(slot, scene);
        }

        private int slotOf(int act) {
            return (oldest + act) % KEPT_AT_MOST;
        }

        private Scene swap(int slot, Scene scene) {
            Scene other = slots[slot];
            slots[slot] = scene;
            return other;
        }
    }

    /** STEPS: the latest ROUNDS, 20 at most. */
    private static final class Track {
        private static final int KEPT_AT_MOST = 20;

        private final int[] moved = new int[KEPT_AT_MOST];
        private final int[] costAhead = new int[KEPT_AT_MOST];
        private int latest = 0;
        int count = 0;

        void clear() {
            count = 0;
        }

        void add(int movedByIt, int costAheadOfIt) {
            latest = (latest + 1) % KEPT_AT_MOST;
            moved[latest] = movedByIt;
            costAhead[latest] = costAheadOfIt;
            count = Math.min(count + 1, KEPT_AT_MOST);
        }

        int movedAt(int k) {
            return moved[Math.floorMod(latest - k, KEPT_AT_MOST)];
        }

        int costAt(int k) {
            return costAhead[Math.floorMod(latest - k, KEPT_AT_MOST)];
        }
    }

    /** ROUNDS to come, made on a copy; what was seen is known until the picture changes. */
    private static final class Ahead {
        private static final int ROUNDS_TO_COME_AT_MOST = 200;

        final Scene next = new Scene();
        int moved = 0;
        int roundsToCome = NONE;
        int costThen = NONE;
        private final Scene last = new Scene();
        private final Field lastField = new Field();
        private boolean oneKnown = false;
        private boolean endKnown = false;

        void forget() {
            oneKnown = false;
            endKnown = false;
        }

        void lookOne(Scene now) {
            if (oneKnown) {
                return;
            }
            last.copy(now);
            lastField.survey(last);
            moved = lastField.round(last);
            next.copy(last);
            oneKnown = true;
            endKnown = false;
        }

        void lookToEnd(Scene now) {
            lookOne(now);
            if (endKnown) {
                return;
            }
            int made = 1;
            int movedLast = moved;
            for (; made < ROUNDS_TO_COME_AT_MOST && movedLast != 0; made++) {
                movedLast = lastField.round(last);
            }
            roundsToCome = movedLast == 0 ? made : NONE;
            costThen = movedLast == 0 ? lastField.total : NONE;
            endKnown = true;
        }
    }

    /** A picture that is kept, with its OWNERS. */
    private static final class Box {
        boolean full = false;
        final Scene scene = new Scene();
        private final int[] owner = new int[CELLS_AT_MOST];

        void keep(Scene from, Field field) {
            scene.copy(from);
            System.arraycopy(field.owner, 0, owner, 0, CELLS_AT_MOST);
            full = true;
        }

        int otherOwners(Scene now, Field field) {
            int found = 0;
            for (int number = 0; number < now.size(); number++) {
                if (field.owner[number] != owner[number]) {
                    found++;
                }
            }
            return found;
        }

        int otherWeights(Scene now) {
            int found = 0;
            for (int number = 0; number < now.size(); number++) {
                if (now.weight[number] != scene.weight[number]) {
                    found++;
                }
            }
            return found;
        }

        int otherDots(Scene now) {
            int found = 0;
            for (int dot = 0; dot < now.count && dot < scene.count; dot++) {
                if (!now.liesAsIn(dot, scene)) {
                    found++;
                }
            }
            return found;
        }
    }

    /** The TAPE, and the reading of the picture that it tells. */
    private static final class Reader {
        private static final int BYTES_AT_MOST = 900;
        private static final int BYTES_A_FEED = 20;
        private static final int LETTERS_AT_MOST = 8;
        private static final int DIGITS_AT_MOST = 20;
        private static final int DIGITS_OF_A_NUMBER = 4;

        private static final int NO_TOKEN = 0;
        private static final int END = 1;
        private static final int WORD = 2;
        private static final int NUMBER = 3;
        private static final int SIGN = 4;

        private static final int FAULT_NO_TOKEN = 1;
        private static final int FAULT_MISPLACED = 2;
        private static final int FAULT_TOO_MANY = 3;
        private static final int FAULT_NUMBER = 4;

        int length = 0;
        int mistake = 0;
        int place = NONE;
        private final int[] bytes = new int[BYTES_AT_MOST];
        private Scene draft = new Scene();
        private int rowsTold = 0;
        private int at = 0;
        private int start = 0;
        private int kind = END;

        boolean hasRoom() {
            return length + BYTES_A_FEED <= BYTES_AT_MOST;
        }

        void append(int number) {
            for (int shift = 24; shift >= 0 && length < BYTES_AT_MOST; shift -= 8) {
                bytes[length] = (number >> shift) & 255;
                length++;
            }
        }

        /** Gives the picture that was read for another one, into which the next is read. */
        Scene handOver(Scene other) {
            Scene read = draft;
            draft = other;
            return read;
        }

        /** Reads the TAPE and empties it; answers whether there was no FAULT. */
        boolean read() {
            mistake = 0;
            place = NONE;
            rowsTold = 0;
            at = 0;
            draft.clear();
            next();
            if (isWord("size")) {
                readSize();
            }
            // Each line takes a byte at least, so there are no more lines than bytes.
            for (int i = 0; i < BYTES_AT_MOST && mistake == 0 && kind != END; i++) {
                readLine();
            }
            length = 0;
            return mistake == 0;
        }

        private void readSize() {
            draft.width = readNumber(1, SIDE_AT_MOST);
            draft.height = readNumber(1, SIDE_AT_MOST);
            readSign();
        }

        private void readLine() {
            if (isWord("row")) {
                readRow();
            } else if (isWord("dot")) {
                readDot();
            } else {
                fail(kind == NO_TOKEN ? FAULT_NO_TOKEN : FAULT_MISPLACED);
            }
        }

        private void readRow() {
            if (rowsTold >= draft.height) {
                fail(FAULT_TOO_MANY);
                return;
            }
            next();
            if (!expect(NUMBER)) {
                return;
            }
            if (at - start > draft.width) {
                fail(FAULT_NUMBER);
                return;
            }
            for (int i = start; i < at; i++) {
                draft.weight[rowsTold * draft.width + i - start] = bytes[i] - '0';
            }
            rowsTold++;
            readSign();
        }

        private void readDot() {
            if (draft.count >= DOTS_AT_MOST) {
                fail(FAULT_TOO_MANY);
                return;
            }
            int x = readNumber(0, draft.width - 1);
            int y = readNumber(0, draft.height - 1);
            readSign();
            if (mistake == 0) {
                draft.add(x, y);
            }
        }

        private int readNumber(int least, int greatest) {
            if (mistake != 0) {
                return least;
            }
            next();
            if (!expect(NUMBER)) {
                return least;
            }
            int value = at - start > DIGITS_OF_A_NUMBER ? NONE : valueOfDigits();
            if (value < least || value > greatest) {
                fail(FAULT_NUMBER);
                return least;
            }
            return value;
        }

        private int valueOfDigits() {
            int value = 0;
            for (int i = start; i < at; i++) {
                value = value * 10 + bytes[i] - '0';
            }
            return value;
        }

        /** Reads the sign that ends a line, and the TOKEN behind it. */
        private void readSign() {
            if (mistake != 0) {
                return;
            }
            next();
            if (expect(SIGN)) {
                next();
            }
        }

        private boolean expect(int wanted) {
            if (kind == wanted) {
                return true;
            }
            fail(kind == NO_TOKEN ? FAULT_NO_TOKEN : FAULT_MISPLACED);
            return false;
        }

        private void fail(int what) {
            mistake = what;
            place = start;
        }

        private boolean isWord(String word) {
            if (kind != WORD || at - start != word.length()) {
                return false;
            }
            for (int i = 0; i < word.length(); i++) {
                if (bytes[start + i] != word.charAt(i)) {
                    return false;
                }
            }
            return true;
        }

        private void next() {
            while (at < length && (bytes[at] == ' ' || bytes[at] == '\n')) {
                at++;
            }
            start = at;
            if (at >= length) {
                kind = END;
                return;
            }
            kind = kindOf(bytes[at]);
            at++;
            if (kind == WORD || kind == NUMBER) {
                while (at < length && kindOf(bytes[at]) == kind) {
                    at++;
                }
            }
            boolean letterBehind = at < length && kindOf(bytes[at]) == WORD;
            if (kind == WORD && at - start > LETTERS_AT_MOST
                || kind == NUMBER && (at - start > DIGITS_AT_MOST || letterBehind)) {
                kind = NO_TOKEN;
            }
        }

        /** The kind of the TOKENS that a sign may begin. */
        private static int kindOf(int sign) {
            if (sign >= 'a' && sign <= 'z') {
                return WORD;
            }
            if (sign >= '0' && sign <= '9') {
                return NUMBER;
            }
            return sign == ';' ? SIGN : NO_TOKEN;
        }
    }
}
