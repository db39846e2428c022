/**
 * Forms a x x + b x y + c y y of one told discriminant, their classes, units and what they take.
 * Nothing is made after the constructor: every call uses the rows that stand here again.
 */
public final class RootForms {

    public static final int NONE = -1;

    private static final int MILLION = 1_000_000;
    private static final long BIGGEST = 1_000_000_000_000_000_000L;
    private static final int SHELF_ROOM = 40;
    private static final int LOG_ROOM = 60;
    private static final int OUT_ROOM = 200;
    /* No discriminant here has more than 104 LEAST forms with a above 0 (D 3649), or 83 classes (D -3911). */
    private static final int CLASS_ROOM = 128;
    private static final int RING_ROOM = 16;
    /* Far above the steps, quotients or divisions that any number of the document needs. */
    private static final int TURNS = 100_000;

    private static final int FINE = 0;
    private static final int WRONG_NUMBER = 1;
    private static final int NO_SUCH = 2;
    private static final int NO_ROOM = 3;
    private static final int NO_FORM = 4;
    private static final int WRONG_SIGN = 5;
    private static final int TOO_BIG = 6;
    private static final int WRONG_WORTH = 7;

    private final GroupTable groups;
    private final ClassTable table;
    private final Ground ground;
    private final Shelf shelf;
    private final Way latestWay;
    private final Pairs out;
    private final Quotients quotients;
    private final Form workForm;
    private final Way workWay;
    private int latestTrouble;

    public RootForms() {
        groups = new GroupTable();
        table = groups.table;
        ground = table.ground;
        shelf = new Shelf();
        latestWay = new Way();
        out = new Pairs();
        quotients = new Quotients();
        workForm = new Form();
        workWay = new Way();
        latestTrouble = FINE;
    }

    public boolean root(int d) {
        if (!Ground.isDiscriminant(d)) {
            latestTrouble = WRONG_NUMBER;
            return false;
        }
        ground.settle(d);
        shelf.empty();
        latestTrouble = FINE;
        return true;
    }

    // ---- forms

    public int form(int a, int b) {
        if (a == 0 || isBeyond(a) || isBeyond(b)) {
            return refuse(WRONG_NUMBER);
        }
        if (!ground.complete(a, b, workForm) || workForm.c < -MILLION || workForm.c > MILLION) {
            return refuse(NO_FORM);
        }
        int place = shelf.lay(workForm);
        return place < 0 ? refuse(NO_ROOM) : accept(place);
    }

    public int number(int place, int what) {
        Form held = shelf.at(place);
        return held == null ? 0 : held.part(what);
    }

    public int least(int place) {
        Form held = shelf.at(place);
        if (held == null) {
            return refuse(NO_SUCH);
        }
        return accept(ground.isLeast(held) ? 1 : 0);
    }

    public int step(int place) {
        Form held = shelf.at(place);
        if (held == null) {
            return refuse(NO_SUCH);
        }
        shelf.remember(place, held);
        latestWay.reset();
        latestWay.follow(ground.advance(held));
        return accept(1);
    }

    public int reduce(int place) {
        Form held = shelf.at(place);
        if (held == null) {
            return refuse(NO_SUCH);
        }
        shelf.remember(place, held);
        return accept(ground.lead(held, latestWay));
    }

    public long way(int k) {
        switch (k) {
            case 0: return latestWay.p;
            case 1: return latestWay.q;
            case 2: return latestWay.r;
            case 3: return latestWay.s;
            default: return 0;
        }
    }

    public int ring(int place) {
        Form held = shelf.at(place);
        if (held == null) {
            return refuse(NO_SUCH);
        }
        if (ground.d < 0) {
            return refuse(WRONG_SIGN);
        }
        workForm.copy(held);
        ground.lead(workForm, workWay);
        return accept(ground.ringLength(workForm));
    }

    public int classOf(int place) {
        Form held = shelf.at(place);
        if (held == null) {
            return refuse(NO_SUCH);
        }
        table.prepare();
        return accept(table.find(held));
    }

    public int check(int place, int other, int p, int q, int r, int s) {
        Form from = shelf.at(place);
        Form to = shelf.at(other);
        if (from == null || to == null) {
            return refuse(NO_SUCH);
        }
        if (isBeyond(p) || isBeyond(q) || isBeyond(r) || isBeyond(s)) {
            return refuse(WRONG_NUMBER);
        }
        workWay.put(p, q, r, s);
        if (workWay.worth() != 1) {
            return refuse(WRONG_WORTH);
        }
        return accept(workWay.leads(from, to) ? 1 : 0);
    }

    // ---- classes

    public int classes() {
        table.prepare();
        return table.classCount;
    }

    public int head(int i, int what) {
        table.prepare();
        if (!table.hasClass(i)) {
            return 0;
        }
        table.copyHead(i, workForm);
        return workForm.part(what);
    }

    public int one() {
        /* Heads are numbered by a first, and only the class of the form with a 1 has a head with a 1. */
        return 0;
    }

    public int join(int i, int j) {
        table.prepare();
        if (!table.hasClass(i) || !table.hasClass(j)) {
            return refuse(NO_SUCH);
        }
        return accept(table.joined(i, j));
    }

    public int back(int i) {
        table.prepare();
        if (!table.hasClass(i)) {
            return refuse(NO_SUCH);
        }
        table.copyHead(i, workForm);
        workForm.b = -workForm.b;
        return accept(table.find(workForm));
    }

    public int order(int i) {
        groups.prepare();
        if (!table.hasClass(i)) {
            return refuse(NO_SUCH);
        }
        return accept(groups.orders[i]);
    }

    public int group(int k) {
        groups.prepare();
        if (k < 0 || k >= groups.ringCount || k >= RING_ROOM) {
            return refuse(NO_SUCH);
        }
        return accept(groups.rings[k]);
    }

    public int genus(int i) {
        groups.prepare();
        if (!table.hasClass(i)) {
            return refuse(NO_SUCH);
        }
        return accept(groups.genusOf[i]);
    }

    public int genera() {
        groups.prepare();
        return groups.genusCount;
    }

    // ---- units, quotients

    public long unit(int what) {
        if (ground.d < 0) {
            return refuse(WRONG_SIGN);
        }
        if (what < 0 || what > 2) {
            return refuse(WRONG_NUMBER);
        }
        /* (start + the root of D) / 2, start of D's evenness, has quotients that come again from the first on. */
        long start = ground.r - ((ground.r - ground.d) & 1);
        int turns = quotients.goRound(ground.d, start, 2);
        long t = 2 * quotients.upper - start * quotients.lower;
        if (quotients.big || t > BIGGEST) {
            return refuse(TOO_BIG);
        }
        latestTrouble = FINE;
        switch (what) {
            case 0: return t;
            case 1: return quotients.lower;
            default: return turns % 2 == 0 ? 4 : -4;
        }
    }

    public int period(int n) {
        if (!hasQuotients(n)) {
            return refuse(WRONG_NUMBER);
        }
        return accept(quotients.goRound(n, 0, 1));
    }

    public int quotient(int n, int k) {
        if (!hasQuotients(n) || k < 0 || k > 1000) {
            return refuse(WRONG_NUMBER);
        }
        quotients.goTo(n, k);
        return accept((int) quotients.latest);
    }

    public long near(int n, int k, boolean lower) {
        if (!hasQuotients(n) || k < 0 || k > 1000) {
            return refuse(WRONG_NUMBER);
        }
        quotients.goTo(n, k);
        if (quotients.big) {
            return refuse(TOO_BIG);
        }
        latestTrouble = FINE;
        return lower ? quotients.lower : quotients.upper;
    }

    // ---- what is taken

    public int takes(int place, int n) {
        Form held = shelf.at(place);
        if (held == null) {
            return refuse(NO_SUCH);
        }
        if (ground.d > 0) {
            return refuse(WRONG_SIGN);
        }
        if (n < 1 || n > 100_000) {
            return refuse(WRONG_NUMBER);
        }
        /* A LEAST form takes n near the middle only, so few pairs are tried there and led back. */
        workForm.copy(held);
        ground.lead(workForm, workWay);
        out.clear();
        return accept(countTaken(n));
    }

    public int proper(int place, int n) {
        Form held = shelf.at(place);
        if (held == null) {
            return refuse(NO_SUCH);
        }
        if (n < -20_000 || n > 20_000 || n == 0 || (n < 0 && ground.d < 0)) {
            return refuse(WRONG_NUMBER);
        }
        table.prepare();
        return accept(countProper(n, table.find(held)));
    }

    public int squares(int n) {
        if (n < 0 || n > 1_000_000_000) {
            return refuse(WRONG_NUMBER);
        }
        out.clear();
        return accept(countSquares(n));
    }

    public int pair(int i, boolean second) {
        if (i < 0 || i >= out.count || i >= OUT_ROOM) {
            return Integer.MIN_VALUE;
        }
        return second ? out.ys[i] : out.xs[i];
    }

    public int undo() {
        return shelf.takeBack() ? 1 : 0;
    }

    public int size(int what) {
        switch (what) {
            case 0: return shelf.count;
            case 1: return out.count;
            case 2: return shelf.acts;
            case 3: return ground.d;
            default: return Integer.MIN_VALUE;
        }
    }

    public int trouble() {
        return latestTrouble;
    }

    private int refuse(int why) {
        latestTrouble = why;
        return NONE;
    }

    private int accept(int answer) {
        latestTrouble = FINE;
        return answer;
    }

    private static boolean isBeyond(int n) {
        return n < -MILLION || n > MILLION;
    }

    private static boolean hasQuotients(int n) {
        return n >= 2 && n <= 10_000 && !Sums.isSquare(n);
    }

    /** workForm is LEAST, and workWay leads the form that is asked for to it. */
    private int countTaken(int n) {
        long top = 4 * workForm.a * n;
        long side = Sums.rootOf(top);
        int found = 0;
        for (long y = 0; y < TURNS && top + ground.d * y * y >= 0; y++) {
            long rest = top + ground.d * y * y;
            /* The rest only falls as y grows, so its root is followed downwards. */
            for (; side > 0 && side * side > rest; side--) { }
            if (side * side != rest) {
                continue;
            }
            found += keepTaken(side - workForm.b * y, y);
            if (side > 0) {
                found += keepTaken(-side - workForm.b * y, y);
            }
        }
        return found;
    }

    /** Keeps the pair with 2 a x = doubled, and the one opposite to it where the walk does not come to that itself. */
    private int keepTaken(long doubled, long y) {
        long divisor = 2 * workForm.a;
        if (divisor == 0 || doubled % divisor != 0) {
            return 0;
        }
        long x = doubled / divisor;
        int firstX = (int) (workWay.p * x + workWay.q * y);
        int firstY = (int) (workWay.r * x + workWay.s * y);
        out.insert(firstX, firstY);
        if (y == 0) {
            return 1;
        }
        out.insert(-firstX, -firstY);
        return 2;
    }

    private int countProper(int n, int wanted) {
        int size = Math.abs(n);
        if (size == 0) {
            return 0;
        }
        int found = 0;
        int first = ground.d & 1;
        /* The rest of (b b - D) / 4 by |n|, carried from b to b + 2, spares a division of long numbers for most b. */
        int rest = Math.floorMod((first - ground.d) / 4, size);
        for (int b = first; b < 2 * size; b += 2) {
            if (rest == 0 && ground.complete(n, b, workForm) && table.find(workForm) == wanted) {
                found++;
            }
            rest = (rest + b + 1) % size;
        }
        return found;
    }

    private int countSquares(int n) {
        int found = 0;
        int y = (int) Sums.rootOf(n);
        /* x x + y y - n, carried from pair to pair along the circle. */
        int over = y * y - n;
        for (int x = 0; x <= y; x++) {
            for (; over > 0 && y > x; y--) {
                over -= 2 * y - 1;
            }
            if (over == 0) {
                out.insert(x, y);
                found++;
            }
            over += 2 * x + 1;
        }
        return found;
    }

    private static final class Sums {

        private Sums() { }

        /** The greatest whole number whose square is at most n, for n from 0 to below 2 to the 32nd. */
        static long rootOf(long n) {
            long found = 0;
            for (long bit = 1 << 15; bit > 0; bit >>= 1) {
                if ((found + bit) * (found + bit) <= n) {
                    found += bit;
                }
            }
            return found;
        }

        static boolean isSquare(long n) {
            long side = rootOf(n);
            return side * side == n;
        }

        static long commonDivisor(long x, long y) {
            long high = Math.abs(x);
            long low = Math.abs(y);
            for (int turn = 0; turn < TURNS && low != 0; turn++) {
                long rest = high % low;
                high = low;
                low = rest;
            }
            return high;
        }

        /** Some k for which k m has, by n above 0, the rest of the greatest common divisor of both. */
        static long factorToDivisor(long m, long n) {
            if (n <= 0) {
                return 0;
            }
            long high = n;
            long low = Math.floorMod(m, n);
            long highTimes = 0;
            long lowTimes = 1;
            for (int turn = 0; turn < TURNS && low != 0; turn++) {
                long whole = high / low;
                long rest = high - whole * low;
                long restTimes = highTimes - whole * lowTimes;
                high = low;
                low = rest;
                highTimes = lowTimes;
                lowTimes = restTimes;
            }
            return highTimes;
        }
    }

    private static final class Form {

        long a;
        long b;
        long c;

        void put(long newA, long newB, long newC) {
            a = newA;
            b = newB;
            c = newC;
        }

        void copy(Form other) {
            put(other.a, other.b, other.c);
        }

        int part(int what) {
            switch (what) {
                case 0: return (int) a;
                case 1: return (int) b;
                case 2: return (int) c;
                default: return 0;
            }
        }

        long worthAt(long x, long y) {
            return a * x * x + b * x * y + c * y * y;
        }
    }

    /** A SUBSTITUTION. */
    private static final class Way {

        long p;
        long q;
        long r;
        long s;

        Way() {
            p = 1;
            s = 1;
        }

        void put(long newP, long newQ, long newR, long newS) {
            p = newP;
            q = newQ;
            r = newR;
            s = newS;
        }

        void reset() {
            put(1, 0, 0, 1);
        }

        /** Goes on by a STEP, (0, -1, 1, t). */
        void follow(long t) {
            put(q, q * t - p, s, s * t - r);
        }

        long worth() {
            return p * s - q * r;
        }

        boolean leads(Form from, Form to) {
            long middle = 2 * from.a * p * q + from.b * (p * s + q * r) + 2 * from.c * r * s;
            return from.worthAt(p, r) == to.a && middle == to.b && from.worthAt(q, s) == to.c;
        }
    }

    /** The DISCRIMINANT, and what it alone says of a form. */
    private static final class Ground {

        int d;
        int r;

        Ground() {
            d = -4;
        }

        static boolean isDiscriminant(int d) {
            if (d < -4000 || d > 4000 || d == 0 || Math.floorMod(d, 4) > 1) {
                return false;
            }
            return d < 0 || !Sums.isSquare(d);
        }

        void settle(int newD) {
            d = newD;
            r = newD > 0 ? (int) Sums.rootOf(newD) : 0;
        }

        /** Makes the form with this a and b, however great its c; false if there is none. */
        boolean complete(long a, long b, Form into) {
            long product = b * b - d;
            if (a == 0 || (d < 0 && a < 0) || product % (4 * a) != 0) {
                return false;
            }
            long c = product / (4 * a);
            into.put(a, b, c);
            return Sums.commonDivisor(Sums.commonDivisor(a, b), c) == 1;
        }

        boolean isLeast(Form form) {
            long a = Math.abs(form.a);
            if (d > 0) {
                return form.b > 0 && form.b <= r && r - form.b < 2 * a && 2 * a <= r + form.b;
            }
            long b = Math.abs(form.b);
            return b <= a && a <= form.c && (form.b >= 0 || (b != a && a != form.c));
        }

        /** A STEP; answers the last number of its SUBSTITUTION, the one that is not the same in all. */
        long advance(Form form) {
            long c = form.c;
            if (c == 0) {
                return 0;
            }
            long size = Math.abs(c);
            long below = d < 0 || size > r ? -size : r - 2 * size;
            long b = below + 1 + Math.floorMod(-form.b - below - 1, 2 * size);
            long t = (form.b + b) / (2 * c);
            form.put(c, b, (b * b - d) / (4 * c));
            return t;
        }

        /** STEPS until the form is LEAST: how many; the way becomes theirs. */
        int lead(Form form, Way way) {
            way.reset();
            int steps = 0;
            for (; steps < TURNS && !isLeast(form); steps++) {
                way.follow(advance(form));
            }
            return steps;
        }

        /** How many STEPS lead a LEAST form, with D above 0, to itself again. */
        int ringLength(Form form) {
            long a = form.a;
            long b = form.b;
            int steps = 0;
            do {
                advance(form);
                steps++;
            } while (steps < TURNS && (form.a != a || form.b != b));
            return steps;
        }
    }

    /** The forms that lie in places, and what the latest acts changed there. */
    private static final class Shelf {

        /* Stands in the log for a place that held nothing before the act. */
        private static final int NEW_PLACE = -1;

        final Form[] forms;
        final Form[] logForms;
        final int[] logPlaces;
        int count;
        int acts;
        /* The log goes round: where the next act is written. */
        int next;

        Shelf() {
            forms = new Form[SHELF_ROOM];
            for (int i = 0; i < SHELF_ROOM; i++) {
                forms[i] = new Form();
            }
            logForms = new Form[LOG_ROOM];
            for (int i = 0; i < LOG_ROOM; i++) {
                logForms[i] = new Form();
            }
            logPlaces = new int[LOG_ROOM];
        }

        void empty() {
            count = 0;
            acts = 0;
            next = 0;
        }

        Form at(int place) {
            return place < 0 || place >= count || place >= SHELF_ROOM ? null : forms[place];
        }

        /** Answers the new place, or one below 0 if there is no room. */
        int lay(Form form) {
            if (count < 0 || count >= SHELF_ROOM) {
                return -1;
            }
            remember(NEW_PLACE, form);
            Form held = forms[count];
            if (held != null) {
                held.copy(form);
            }
            count++;
            return count - 1;
        }

        void remember(int place, Form before) {
            if (next < 0 || next >= LOG_ROOM) {
                return;
            }
            logPlaces[next] = place;
            Form logged = logForms[next];
            if (logged != null) {
                logged.copy(before);
            }
            next = next + 1 == LOG_ROOM ? 0 : next + 1;
            acts = Math.min(acts + 1, LOG_ROOM);
        }

        boolean takeBack() {
            if (acts <= 0) {
                return false;
            }
            acts--;
            next = next <= 0 || next >= LOG_ROOM ? LOG_ROOM - 1 : next - 1;
            if (logPlaces[next] == NEW_PLACE) {
                count--;
                return true;
            }
            Form held = at(logPlaces[next]);
            Form before = logForms[next];
            if (held != null && before != null) {
                held.copy(before);
            }
            return true;
        }
    }

    /** OUT. */
    private static final class Pairs {

        final int[] xs;
        final int[] ys;
        int count;

        Pairs() {
            xs = new int[OUT_ROOM];
            ys = new int[OUT_ROOM];
        }

        void clear() {
            count = 0;
        }

        /** Puts a pair where it stands by x, then y; what is pushed out at the end is forgotten. */
        void insert(int x, int y) {
            int place = Math.min(count, OUT_ROOM);
            for (; place > 0 && isAhead(x, y, place - 1); place--) {
                if (place < OUT_ROOM) {
                    xs[place] = xs[place - 1];
                    ys[place] = ys[place - 1];
                }
            }
            if (place >= 0 && place < OUT_ROOM) {
                xs[place] = x;
                ys[place] = y;
            }
            count = Math.min(count + 1, OUT_ROOM);
        }

        private boolean isAhead(int x, int y, int i) {
            if (i < 0 || i >= OUT_ROOM) {
                return false;
            }
            return x < xs[i] || (x == xs[i] && y < ys[i]);
        }
    }

    /**
     * The classes of the ground's discriminant. Every class has LEAST forms with a above 0 (in a RING every
     * second one), so those alone are listed, by a, then b: the first of a class is its HEAD.
     */
    private static final class ClassTable {

        final Ground ground;
        final int[] as;
        final int[] bs;
        final int[] cs;
        final int[] classAt;
        final int[] heads;
        final Form walker;
        final Form left;
        final Form right;
        int count;
        int classCount;
        /* The discriminant that the lists are of; 0 is none. */
        int madeFor;

        ClassTable() {
            ground = new Ground();
            as = new int[CLASS_ROOM];
            bs = new int[CLASS_ROOM];
            cs = new int[CLASS_ROOM];
            classAt = new int[CLASS_ROOM];
            heads = new int[CLASS_ROOM];
            walker = new Form();
            left = new Form();
            right = new Form();
        }

        boolean hasClass(int i) {
            return i >= 0 && i < classCount && i < CLASS_ROOM;
        }

        void prepare() {
            if (madeFor == ground.d) {
                return;
            }
            madeFor = ground.d;
            listLeast();
            numberClasses();
        }

        private void listLeast() {
            count = 0;
            int d = ground.d;
            int r = ground.r;
            int topA = d > 0 ? r : (int) Sums.rootOf(-d / 3);
            for (int a = 1; a <= topA; a++) {
                int firstB = d > 0 ? Math.max(1, Math.max(r - 2 * a + 1, 2 * a - r)) : 1 - a;
                int lastB = d > 0 ? r : a;
                for (int b = firstB + ((firstB - d) & 1); b <= lastB; b += 2) {
                    if (ground.complete(a, b, walker) && ground.isLeast(walker)) {
                        listWalker();
                    }
                }
            }
        }

        private void listWalker() {
            if (count < 0 || count >= CLASS_ROOM) {
                return;
            }
            as[count] = walker.part(0);
            bs[count] = walker.part(1);
            cs[count] = walker.part(2);
            classAt[count] = NONE;
            count++;
        }

        private void numberClasses() {
            classCount = 0;
            for (int i = 0; i < count && i < CLASS_ROOM; i++) {
                if (classAt[i] == NONE && classCount < CLASS_ROOM) {
                    heads[classCount] = i;
                    markRing(i, classCount);
                    classCount++;
                }
            }
        }

        private void markRing(int first, int mark) {
            if (first < 0 || first >= CLASS_ROOM) {
                return;
            }
            classAt[first] = mark;
            if (ground.d < 0) {
                return;
            }
            walker.put(as[first], bs[first], cs[first]);
            for (int turn = 0; turn < CLASS_ROOM; turn++) {
                ground.advance(walker);
                ground.advance(walker);
                int i = indexOf(walker.a, walker.b);
                if (i < 0 || i >= CLASS_ROOM || i == first) {
                    return;
                }
                classAt[i] = mark;
            }
        }

        /** Where the list has the LEAST form with this a and b; NONE if it has none. */
        private int indexOf(long a, long b) {
            int low = 0;
            int high = Math.min(count, CLASS_ROOM) - 1;
            for (int turn = 0; turn < CLASS_ROOM && low <= high; turn++) {
                int middle = (low + high) / 2;
                if (middle < 0 || middle >= CLASS_ROOM) {
                    return NONE;
                }
                if (as[middle] == a && bs[middle] == b) {
                    return middle;
                }
                if (as[middle] < a || (as[middle] == a && bs[middle] < b)) {
                    low = middle + 1;
                } else {
                    high = middle - 1;
                }
            }
            return NONE;
        }

        /** The class of a form, which stays. */
        int find(Form form) {
            walker.copy(form);
            for (int turn = 0; turn < TURNS && (walker.a < 0 || !ground.isLeast(walker)); turn++) {
                ground.advance(walker);
            }
            int i = indexOf(walker.a, walker.b);
            return i < 0 || i >= CLASS_ROOM ? NONE : classAt[i];
        }

        void copyHead(int i, Form into) {
            if (!hasClass(i)) {
                return;
            }
            int place = heads[i];
            if (place >= 0 && place < CLASS_ROOM) {
                into.put(as[place], bs[place], cs[place]);
            }
        }

        /** JOIN, by Gauss's way for two forms with a above 0 that need have no b in common. */
        int joined(int i, int j) {
            copyHead(i, left);
            copyHead(j, right);
            long middle = (left.b + right.b) / 2;
            long common = Sums.commonDivisor(left.a, right.a);
            long divisor = Sums.commonDivisor(common, middle);
            if (common == 0 || divisor == 0) {
                return NONE;
            }
            long ofRight = Sums.factorToDivisor(right.a, left.a);
            long ofMiddle = Sums.factorToDivisor(middle, common);
            long ofCommon = (divisor - ofMiddle * middle) / common;
            long leftA = left.a / divisor;
            long rightA = right.a / divisor;
            if (leftA == 0) {
                return NONE;
            }
            long turns = Math.floorMod(-ofRight * ofCommon * (right.b - middle) - ofMiddle * right.c, leftA);
            if (!ground.complete(leftA * rightA, right.b + 2 * rightA * turns, left)) {
                return NONE;
            }
            return find(left);
        }
    }

    /** What the JOINs of all classes say: orders, the rings of the GROUP, genera. */
    private static final class GroupTable {

        final ClassTable table;
        final int[] orders;
        final int[] genusOf;
        final int[] chain;
        final int[] rings;
        int ringCount;
        int genusCount;
        int madeFor;

        GroupTable() {
            table = new ClassTable();
            orders = new int[CLASS_ROOM];
            genusOf = new int[CLASS_ROOM];
            chain = new int[CLASS_ROOM];
            rings = new int[RING_ROOM];
        }

        void prepare() {
            table.prepare();
            if (madeFor == table.madeFor) {
                return;
            }
            madeFor = table.madeFor;
            for (int i = 0; i < CLASS_ROOM; i++) {
                orders[i] = 0;
                genusOf[i] = NONE;
            }
            for (int i = 0; i < CLASS_ROOM && i < table.classCount; i++) {
                if (orders[i] == 0) {
                    orderChain(i);
                }
            }
            findRings();
            numberGenera(listSquares());
        }

        /** Joins a class with itself until ONE comes: that tells the orders of all that come on the way. */
        private void orderChain(int first) {
            int length = 0;
            int latest = first;
            for (; length < CLASS_ROOM; length++) {
                chain[length] = latest;
                if (latest == 0) {
                    break;
                }
                latest = table.joined(latest, first);
            }
            length = Math.min(length + 1, CLASS_ROOM);
            for (int k = 0; k < length; k++) {
                long common = Sums.commonDivisor(length, k + 1);
                if (common > 0 && table.hasClass(chain[k])) {
                    orders[chain[k]] = (int) (length / common);
                }
            }
        }

        /**
         * The classes whose order divides the k-th power of a prime are, against those of the power before it,
         * the prime times more for each ring that the k-th power divides: so the orders alone tell the rings.
         */
        private void findRings() {
            ringCount = 0;
            int left = table.classCount;
            for (int prime = 2; prime <= CLASS_ROOM && left > 1; prime++) {
                int power = prime;
                int before = 1;
                for (; left % prime == 0 && power <= CLASS_ROOM; power *= prime) {
                    int now = countOrders(power);
                    int fewer = before;
                    int place = 0;
                    for (; fewer < now && place < RING_ROOM; fewer *= prime) {
                        widenRing(place, prime);
                        left /= prime;
                        place++;
                    }
                    before = now;
                }
            }
        }

        private int countOrders(int power) {
            int found = 0;
            for (int i = 0; i < CLASS_ROOM && i < table.classCount; i++) {
                if (orders[i] > 0 && power % orders[i] == 0) {
                    found++;
                }
            }
            return found;
        }

        private void widenRing(int place, int prime) {
            if (place < 0 || place >= RING_ROOM) {
                return;
            }
            if (place >= ringCount) {
                rings[place] = 1;
                ringCount = place + 1;
            }
            rings[place] *= prime;
        }

        /** The chain holds the squares. */
        private void numberGenera(int squareCount) {
            genusCount = 0;
            for (int i = 0; i < CLASS_ROOM && i < table.classCount; i++) {
                if (genusOf[i] != NONE) {
                    continue;
                }
                for (int k = 0; k < squareCount && k < CLASS_ROOM; k++) {
                    int member = table.joined(i, chain[k]);
                    if (table.hasClass(member)) {
                        genusOf[member] = genusCount;
                    }
                }
                genusCount++;
            }
        }

        /** Puts each class that is one JOINED with itself into the chain once; genusOf marks them meanwhile. */
        private int listSquares() {
            int length = 0;
            for (int i = 0; i < CLASS_ROOM && i < table.classCount; i++) {
                int square = table.joined(i, i);
                if (table.hasClass(square) && genusOf[square] == NONE && length < CLASS_ROOM) {
                    genusOf[square] = 0;
                    chain[length] = square;
                    length++;
                }
            }
            for (int k = 0; k < length; k++) {
                if (table.hasClass(chain[k])) {
                    genusOf[chain[k]] = NONE;
                }
            }
            return length;
        }
    }

    /** The quotients of (start + the root of n) / first, one after the other, and their fraction. */
    private static final class Quotients {

        long n;
        long whole;
        long start;
        long divisor;
        long latest;
        long upper;
        long upperBefore;
        long lower;
        long lowerBefore;
        boolean big;

        private void begin(long newN, long newStart, long first) {
            n = newN;
            whole = Sums.rootOf(newN);
            start = newStart;
            divisor = first;
            latest = first > 0 ? (whole + newStart) / first : 0;
            upper = latest;
            upperBefore = 1;
            lower = 1;
            lowerBefore = 0;
            big = false;
        }

        private void advance() {
            if (divisor <= 0) {
                return;
            }
            start = latest * divisor - start;
            divisor = (n - start * start) / divisor;
            latest = divisor > 0 ? (whole + start) / divisor : 0;
        }

        private void widenFraction() {
            if (big || latest <= 0) {
                return;
            }
            if (upper > (BIGGEST - upperBefore) / latest) {
                big = true;
                return;
            }
            long nextUpper = latest * upper + upperBefore;
            long nextLower = latest * lower + lowerBefore;
            upperBefore = upper;
            lowerBefore = lower;
            upper = nextUpper;
            lower = nextLower;
        }

        /** Goes on until the first divisor comes again: after how many; the fraction is that of those before. */
        int goRound(long newN, long newStart, long first) {
            begin(newN, newStart, first);
            int turns = 1;
            advance();
            for (; turns < TURNS && divisor != first; turns++) {
                widenFraction();
                advance();
            }
            return turns;
        }

        void goTo(long newN, int k) {
            begin(newN, 0, 1);
            for (int turn = 0; turn < k; turn++) {
                advance();
                widenFraction();
            }
        }
    }
}
