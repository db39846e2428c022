import java.math.BigInteger;
import java.util.ArrayDeque;
import java.util.ArrayList;
import java.util.Arrays;
import java.util.Comparator;
import java.util.HashMap;
import java.util.List;
import java.util.Map;

/** The document's words, followed one by one and slowly: what RootForms is compared with. */
final class SlowForms {

    static final int NONE = -1;
    private static final BigInteger BIGGEST = BigInteger.TEN.pow(18);

    private int d = -4;
    private List<long[]> shelf = new ArrayList<>();
    private final ArrayDeque<List<long[]>> before = new ArrayDeque<>();
    private BigInteger[] way = {BigInteger.ONE, BigInteger.ZERO, BigInteger.ZERO, BigInteger.ONE};
    private List<int[]> out = new ArrayList<>();
    private int trouble = 0;

    private final Map<Integer, House> houses;
    private final Map<Integer, int[]> quotientRows = new HashMap<>();

    /** The houses of a discriminant never change, so many objects may share them. */
    SlowForms(Map<Integer, House> houses) {
        this.houses = houses;
    }

    /** All that is settled by the discriminant alone. */
    static final class House {
        final int d;
        final List<long[]> heads = new ArrayList<>();
        final Map<String, Integer> classOfLeast = new HashMap<>();
        int[][] joins;
        int[] orders;
        List<Integer> rings;
        int[] genus;
        int genera;

        House(int d) {
            this.d = d;
            fillClasses();
        }

        private void fillClasses() {
            List<long[]> least = new ArrayList<>();
            for (long a = -70; a <= 70; a++) {
                for (long b = -70; b <= 70; b++) {
                    if (a == 0 || (d < 0 && a < 0) || (b * b - d) % (4 * a) != 0) {
                        continue;
                    }
                    long[] f = {a, b, (b * b - d) / (4 * a)};
                    if (divisor(f) == 1 && isLeast(d, f)) {
                        least.add(f);
                    }
                }
            }
            Map<String, long[]> headOf = new HashMap<>();
            for (long[] f : least) {
                headOf.put(Arrays.toString(f), headFrom(f));
            }
            for (long[] f : least) {
                if (Arrays.equals(f, headOf.get(Arrays.toString(f)))) {
                    heads.add(f);
                }
            }
            heads.sort(Comparator.<long[]>comparingLong(f -> f[0]).thenComparingLong(f -> f[1]));
            for (long[] f : least) {
                long[] head = headOf.get(Arrays.toString(f));
                for (int i = 0; i < heads.size(); i++) {
                    if (Arrays.equals(head, heads.get(i))) {
                        classOfLeast.put(Arrays.toString(f), i);
                    }
                }
            }
        }

        private long[] headFrom(long[] f) {
            if (d < 0) {
                return f;
            }
            long[] best = null;
            for (long[] g : ringFrom(d, f)) {
                if (g[0] > 0 && (best == null || g[0] < best[0] || (g[0] == best[0] && g[1] < best[1]))) {
                    best = g;
                }
            }
            return best;
        }

        int classOf(long[] f) {
            long[] g = f.clone();
            while (!isLeast(d, g)) {
                g = stepped(d, g);
            }
            return classOfLeast.get(Arrays.toString(g));
        }

        void fillJoins() {
            if (joins != null) {
                return;
            }
            int h = heads.size();
            joins = new int[h][h];
            for (int[] row : joins) {
                Arrays.fill(row, NONE);
            }
            int open = h * h;
            for (long product = 1; open > 0; product++) {
                for (long b = d & 1; b < 2 * product; b += 2) {
                    if ((b * b - d) % (4 * product) == 0) {
                        open -= joinsOf(product, b);
                    }
                }
            }
        }

        /** The document's JOIN for all m n = product, m, n above 0. */
        private int joinsOf(long product, long b) {
            int filled = 0;
            long c = (b * b - d) / (4 * product);
            for (long m = 1; m <= product; m++) {
                if (product % m != 0) {
                    continue;
                }
                long n = product / m;
                long[] first = {m, b, n * c};
                long[] second = {n, b, m * c};
                if (divisor(m, n, b) != 1 || divisor(first) != 1 || divisor(second) != 1) {
                    continue;
                }
                int i = classOf(first);
                int j = classOf(second);
                int answer = classOf(new long[] {product, b, c});
                if (joins[i][j] == NONE) {
                    joins[i][j] = answer;
                    filled++;
                } else if (joins[i][j] != answer) {
                    throw new IllegalStateException("JOIN is not settled for D " + d);
                }
            }
            return filled;
        }

        int one() {
            for (int i = 0; i < heads.size(); i++) {
                if (heads.get(i)[0] == 1) {
                    return i;
                }
            }
            throw new IllegalStateException("no ONE for D " + d);
        }

        void fillGroup() {
            if (orders != null) {
                return;
            }
            fillJoins();
            int h = heads.size();
            orders = new int[h];
            for (int i = 0; i < h; i++) {
                int at = one();
                do {
                    at = joins[at][i];
                    orders[i]++;
                } while (at != one());
            }
            rings = ringsWithOrders(h, h, new ArrayList<>());
            genus = new int[h];
            Arrays.fill(genus, NONE);
            for (int i = 0; i < h; i++) {
                for (int j = 0; j < i && genus[i] == NONE; j++) {
                    for (int k = 0; k < h; k++) {
                        if (joins[j][joins[k][k]] == i) {
                            genus[i] = genus[j];
                        }
                    }
                }
                if (genus[i] == NONE) {
                    genus[i] = genera++;
                }
            }
        }

        /** Tries each row of numbers, each divided by the next one, until its product has as many of each order. */
        private List<Integer> ringsWithOrders(int left, int last, List<Integer> row) {
            if (left == 1) {
                return hasOrders(row) ? new ArrayList<>(row) : null;
            }
            for (int n = 2; n <= left; n++) {
                if (left % n == 0 && last % n == 0) {
                    row.add(n);
                    List<Integer> found = ringsWithOrders(left / n, n, row);
                    row.remove(row.size() - 1);
                    if (found != null) {
                        return found;
                    }
                }
            }
            return null;
        }

        private boolean hasOrders(List<Integer> row) {
            int[] due = orders.clone();
            int[] got = new int[due.length];
            for (int element = 0; element < got.length; element++) {
                int rest = element;
                int order = 1;
                for (int n : row) {
                    int part = n / (int) divisor(n, rest % n);
                    order = order / (int) divisor(order, part) * part;
                    rest /= n;
                }
                got[element] = order;
            }
            Arrays.sort(due);
            Arrays.sort(got);
            return Arrays.equals(due, got);
        }
    }

    private House house() {
        return houses.computeIfAbsent(d, House::new);
    }

    // ---- what the terms say

    static long divisor(long... numbers) {
        BigInteger all = BigInteger.ZERO;
        for (long n : numbers) {
            all = all.gcd(BigInteger.valueOf(n));
        }
        return all.longValue();
    }

    static int rootOf(long n) {
        int found = (int) Math.sqrt((double) n);
        while ((long) found * found > n) {
            found--;
        }
        while ((found + 1L) * (found + 1L) <= n) {
            found++;
        }
        return found;
    }

    static boolean isDiscriminant(int d) {
        if (d < -4000 || d > 4000 || ((d % 4) + 4) % 4 > 1) {
            return false;
        }
        for (int side = 0; side <= 64; side++) {
            if (side * side == d) {
                return false;
            }
        }
        return true;
    }

    static boolean isLeast(int d, long[] f) {
        long a = f[0];
        long b = f[1];
        long c = f[2];
        if (d < 0) {
            if (Math.abs(b) > a || a > c) {
                return false;
            }
            return !(Math.abs(b) == a || a == c) || b >= 0;
        }
        long root = rootOf(d);
        return 0 < b && b <= root && root - b < 2 * Math.abs(a) && 2 * Math.abs(a) <= root + b;
    }

    private static long stepRest(int d, long[] f) {
        long c = Math.abs(f[2]);
        long root = d > 0 ? rootOf(d) : 0;
        boolean middle = d < 0 || c > root;
        long top = middle ? c : root;
        long r = top - Math.floorMod(top + f[1], 2 * c);
        if ((r + f[1]) % (2 * c) != 0 || r <= top - 2 * c || r > top) {
            throw new IllegalStateException("no STEP");
        }
        return r;
    }

    static long[] stepped(int d, long[] f) {
        long r = stepRest(d, f);
        return new long[] {f[2], r, (r * r - d) / (4 * f[2])};
    }

    static List<long[]> ringFrom(int d, long[] least) {
        List<long[]> ring = new ArrayList<>();
        long[] g = least;
        do {
            ring.add(g);
            g = stepped(d, g);
        } while (!Arrays.equals(g, least));
        return ring;
    }

    private static BigInteger[] product(BigInteger[] m, BigInteger[] n) {
        return new BigInteger[] {
            m[0].multiply(n[0]).add(m[1].multiply(n[2])), m[0].multiply(n[1]).add(m[1].multiply(n[3])),
            m[2].multiply(n[0]).add(m[3].multiply(n[2])), m[2].multiply(n[1]).add(m[3].multiply(n[3]))};
    }

    private static BigInteger[] stepWay(int d, long[] f) {
        long t = (f[1] + stepRest(d, f)) / (2 * f[2]);
        return new BigInteger[] {BigInteger.ZERO, BigInteger.ONE.negate(), BigInteger.ONE, BigInteger.valueOf(t)};
    }

    private static BigInteger[] noWay() {
        return new BigInteger[] {BigInteger.ONE, BigInteger.ZERO, BigInteger.ZERO, BigInteger.ONE};
    }

    // ---- the calls

    private int refuse(int why) {
        trouble = why;
        return NONE;
    }

    private int accept(int answer) {
        trouble = 0;
        return answer;
    }

    private boolean has(int place) {
        return place >= 0 && place < shelf.size();
    }

    private static boolean beyond(long n) {
        return Math.abs(n) > 1_000_000;
    }

    private void remember() {
        before.addLast(new ArrayList<>(shelf));
        if (before.size() > 60) {
            before.removeFirst();
        }
    }

    boolean root(int newD) {
        if (!isDiscriminant(newD)) {
            trouble = 1;
            return false;
        }
        d = newD;
        shelf = new ArrayList<>();
        before.clear();
        trouble = 0;
        return true;
    }

    int form(int a, int b) {
        if (a == 0 || beyond(a) || beyond(b)) {
            return refuse(1);
        }
        long product = (long) b * b - d;
        if (product % (4L * a) != 0) {
            return refuse(4);
        }
        long[] f = {a, b, product / (4L * a)};
        if (beyond(f[2]) || divisor(f) != 1 || (d < 0 && a < 0)) {
            return refuse(4);
        }
        if (shelf.size() >= 40) {
            return refuse(3);
        }
        remember();
        shelf.add(f);
        return accept(shelf.size() - 1);
    }

    int number(int place, int what) {
        return has(place) && what >= 0 && what <= 2 ? (int) shelf.get(place)[what] : 0;
    }

    int least(int place) {
        return has(place) ? accept(isLeast(d, shelf.get(place)) ? 1 : 0) : refuse(2);
    }

    int step(int place) {
        if (!has(place)) {
            return refuse(2);
        }
        remember();
        way = stepWay(d, shelf.get(place));
        shelf.set(place, stepped(d, shelf.get(place)));
        return accept(1);
    }

    int reduce(int place) {
        if (!has(place)) {
            return refuse(2);
        }
        remember();
        way = noWay();
        long[] f = shelf.get(place);
        int steps = 0;
        while (!isLeast(d, f)) {
            way = product(way, stepWay(d, f));
            f = stepped(d, f);
            steps++;
        }
        shelf.set(place, f);
        return accept(steps);
    }

    long way(int k) {
        return k >= 0 && k <= 3 ? way[k].longValueExact() : 0;
    }

    int ring(int place) {
        if (!has(place)) {
            return refuse(2);
        }
        if (d < 0) {
            return refuse(5);
        }
        long[] f = shelf.get(place);
        while (!isLeast(d, f)) {
            f = stepped(d, f);
        }
        return accept(ringFrom(d, f).size());
    }

    int classOf(int place) {
        return has(place) ? accept(house().classOf(shelf.get(place))) : refuse(2);
    }

    int check(int place, int other, int p, int q, int r, int s) {
        if (!has(place) || !has(other)) {
            return refuse(2);
        }
        if (beyond(p) || beyond(q) || beyond(r) || beyond(s)) {
            return refuse(1);
        }
        if ((long) p * s - (long) q * r != 1) {
            return refuse(7);
        }
        /* Two forms are one if they agree in these three places. */
        boolean same = true;
        for (int[] xy : new int[][] {{1, 0}, {0, 1}, {1, 1}}) {
            BigInteger x = BigInteger.valueOf((long) p * xy[0] + (long) q * xy[1]);
            BigInteger y = BigInteger.valueOf((long) r * xy[0] + (long) s * xy[1]);
            BigInteger led = worth(shelf.get(place), x, y);
            same &= led.equals(worth(shelf.get(other), BigInteger.valueOf(xy[0]), BigInteger.valueOf(xy[1])));
        }
        return accept(same ? 1 : 0);
    }

    private static BigInteger worth(long[] f, BigInteger x, BigInteger y) {
        return BigInteger.valueOf(f[0]).multiply(x).multiply(x)
            .add(BigInteger.valueOf(f[1]).multiply(x).multiply(y))
            .add(BigInteger.valueOf(f[2]).multiply(y).multiply(y));
    }

    int classes() {
        return house().heads.size();
    }

    private boolean hasClass(int i) {
        return i >= 0 && i < classes();
    }

    int head(int i, int what) {
        return hasClass(i) && what >= 0 && what <= 2 ? (int) house().heads.get(i)[what] : 0;
    }

    int one() {
        return house().one();
    }

    int join(int i, int j) {
        if (!hasClass(i) || !hasClass(j)) {
            return refuse(2);
        }
        house().fillJoins();
        return accept(house().joins[i][j]);
    }

    int back(int i) {
        if (!hasClass(i)) {
            return refuse(2);
        }
        long[] f = house().heads.get(i);
        return accept(house().classOf(new long[] {f[0], -f[1], f[2]}));
    }

    int order(int i) {
        if (!hasClass(i)) {
            return refuse(2);
        }
        house().fillGroup();
        return accept(house().orders[i]);
    }

    int group(int k) {
        house().fillGroup();
        List<Integer> rings = house().rings;
        return k >= 0 && k < rings.size() ? accept(rings.get(k)) : refuse(2);
    }

    int genus(int i) {
        if (!hasClass(i)) {
            return refuse(2);
        }
        house().fillGroup();
        return accept(house().genus[i]);
    }

    int genera() {
        house().fillGroup();
        return house().genera;
    }

    /** t, u, 4 or -4, from the way once round the RING of ONE, which is the least one for 4. */
    static BigInteger[] unitOf(int d) {
        long[] f = {1, d & 1, ((d & 1) - d) / 4};
        while (!isLeast(d, f) || f[0] != 1) {
            f = stepped(d, f);
        }
        BigInteger[] round = noWay();
        boolean hasOpposite = false;
        for (long[] g : ringFrom(d, f)) {
            round = product(round, stepWay(d, g));
            hasOpposite |= g[0] == -1;
        }
        BigInteger t = round[0].add(round[3]).abs();
        BigInteger u = round[2].abs();
        if (!hasOpposite) {
            return new BigInteger[] {t, u, BigInteger.valueOf(4)};
        }
        BigInteger half = t.subtract(BigInteger.TWO).sqrt();
        return new BigInteger[] {half, u.divide(half), BigInteger.valueOf(-4)};
    }

    long unit(int what) {
        if (d < 0) {
            return refuse(5);
        }
        if (what < 0 || what > 2) {
            return refuse(1);
        }
        BigInteger[] unit = unitOf(d);
        if (unit[0].compareTo(BIGGEST) > 0) {
            return refuse(6);
        }
        trouble = 0;
        return unit[what].longValueExact();
    }

    private static boolean hasQuotients(int n) {
        return n >= 2 && n <= 10_000 && rootOf(n) * rootOf(n) != n;
    }

    /** From the root of n to 6,000 places: the quotients 0 .. 1,000 of what is a little less and a little more. */
    static int[] quotientsOf(int n) {
        BigInteger scale = BigInteger.TEN.pow(6000);
        BigInteger low = scale.multiply(scale).multiply(BigInteger.valueOf(n)).sqrt();
        BigInteger[] less = {low, scale};
        BigInteger[] more = {low.add(BigInteger.ONE), scale};
        int[] row = new int[1001];
        for (int k = 0; k <= 1000; k++) {
            BigInteger[] whole = less[0].divideAndRemainder(less[1]);
            BigInteger[] other = more[0].divideAndRemainder(more[1]);
            if (!whole[0].equals(other[0])) {
                throw new IllegalStateException("too few places");
            }
            row[k] = whole[0].intValueExact();
            less = new BigInteger[] {less[1], whole[1]};
            more = new BigInteger[] {more[1], other[1]};
        }
        return row;
    }

    private int[] quotientRow(int n) {
        return quotientRows.computeIfAbsent(n, SlowForms::quotientsOf);
    }

    int period(int n) {
        if (!hasQuotients(n)) {
            return refuse(1);
        }
        int[] row = quotientRow(n);
        for (int length = 1; length < 400; length++) {
            boolean again = true;
            for (int k = 1; k + length <= 1000 && again; k++) {
                again = row[k] == row[k + length];
            }
            if (again) {
                return accept(length);
            }
        }
        throw new IllegalStateException("no PERIOD");
    }

    int quotient(int n, int k) {
        return hasQuotients(n) && k >= 0 && k <= 1000 ? accept(quotientRow(n)[k]) : refuse(1);
    }

    long near(int n, int k, boolean lower) {
        if (!hasQuotients(n) || k < 0 || k > 1000) {
            return refuse(1);
        }
        int[] row = quotientRow(n);
        BigInteger high = BigInteger.valueOf(row[k]);
        BigInteger low = BigInteger.ONE;
        for (int i = k - 1; i >= 0; i--) {
            BigInteger next = high.multiply(BigInteger.valueOf(row[i])).add(low);
            low = high;
            high = next;
        }
        if (high.compareTo(BIGGEST) > 0) {
            return refuse(6);
        }
        trouble = 0;
        return (lower ? low : high).longValueExact();
    }

    int takes(int place, int n) {
        if (!has(place)) {
            return refuse(2);
        }
        if (d > 0) {
            return refuse(5);
        }
        if (n < 1 || n > 100_000) {
            return refuse(1);
        }
        long[] f = shelf.get(place);
        List<int[]> pairs = new ArrayList<>();
        long edge = rootOf(4 * f[2] * n / -d) + 1;
        for (long x = -edge; x <= edge; x++) {
            long square = d * x * x + 4 * f[2] * n;
            long side = square < 0 ? -1 : Math.round(Math.sqrt((double) square));
            if (side < 0 || side * side != square) {
                continue;
            }
            for (long sign = -1; sign <= (side == 0 ? -1 : 1); sign += 2) {
                long doubled = -f[1] * x + sign * side;
                if (doubled % (2 * f[2]) == 0) {
                    pairs.add(new int[] {(int) x, (int) (doubled / (2 * f[2]))});
                }
            }
        }
        return keep(pairs);
    }

    private int keep(List<int[]> pairs) {
        pairs.sort(Comparator.<int[]>comparingInt(p -> p[0]).thenComparingInt(p -> p[1]));
        out = new ArrayList<>(pairs.subList(0, Math.min(200, pairs.size())));
        return accept(pairs.size());
    }

    int proper(int place, int n) {
        if (!has(place)) {
            return refuse(2);
        }
        if (n == 0 || n < -20_000 || n > 20_000 || (d < 0 && n < 0)) {
            return refuse(1);
        }
        int wanted = house().classOf(shelf.get(place));
        int found = 0;
        for (long b = 0; b < 2L * Math.abs(n); b++) {
            if ((b * b - d) % (4L * n) != 0) {
                continue;
            }
            long[] f = {n, b, (b * b - d) / (4L * n)};
            if (divisor(f) == 1 && house().classOf(f) == wanted) {
                found++;
            }
        }
        return accept(found);
    }

    int squares(int n) {
        if (n < 0 || n > 1_000_000_000) {
            return refuse(1);
        }
        List<int[]> pairs = new ArrayList<>();
        for (int x = 0; x * x <= n / 2; x++) {
            int y = (int) Math.round(Math.sqrt(n - x * x));
            if (y * y == n - x * x && x <= y) {
                pairs.add(new int[] {x, y});
            }
        }
        return keep(pairs);
    }

    int pair(int i, boolean second) {
        return i >= 0 && i < out.size() ? out.get(i)[second ? 1 : 0] : Integer.MIN_VALUE;
    }

    int undo() {
        if (before.isEmpty()) {
            return 0;
        }
        shelf = before.removeLast();
        return 1;
    }

    int size(int what) {
        switch (what) {
            case 0: return shelf.size();
            case 1: return out.size();
            case 2: return before.size();
            case 3: return d;
            default: return Integer.MIN_VALUE;
        }
    }

    int trouble() {
        return trouble;
    }
}
