import java.util.HashMap;
import java.util.Map;
import java.util.Random;

/** Long runs of mixed calls: each answer, and trouble() behind it, must be that of SlowForms. */
public final class AgainstSlowTest {

    private static final int RUNS = 420;
    /* An object is promised for 512 calls; half of them are trouble() here, and a turn makes several. */
    private static final int CALLS = 200;
    private static final int[] ODD = {
        0, 1, 2, 3, -1, -2, -3, 4, 5, 39, 40, 59, 60, 61, 1000, 1001, 1_000_000, 1_000_001, -1_000_000, -1_000_001,
        100_000, 100_001, 20_000, 20_001, -20_000, -20_001, 10_000, 10_001, 9_999, 1_000_000_000, 1_000_000_001,
        Integer.MAX_VALUE, Integer.MIN_VALUE, 4000, -4000, 4001, -4001
    };

    private static int wrong = 0;
    private static final Map<Integer, SlowForms.House> HOUSES = new HashMap<>();

    private final Random random;
    private final int run;
    private final int[] grounds;
    private final RootForms fast = new RootForms();
    private final SlowForms slow = new SlowForms(HOUSES);
    private int calls = 0;
    private final StringBuilder told = new StringBuilder();

    private AgainstSlowTest(int run) {
        this.run = run;
        random = new Random(7919L * run + 13);
        /* A few discriminants for each run, as the slow classes take their time; the dear ones of the edges too. */
        int dear = run % 4 == 0 ? -3911 : run % 4 == 1 ? 3649 : discriminant();
        grounds = new int[] {discriminant(), discriminant(), dear};
    }

    public static void main(String[] args) {
        for (int run = 0; run < RUNS && wrong < 10; run++) {
            new AgainstSlowTest(run).play();
        }
        System.out.println(wrong == 0 ? "all answers are as due" : wrong + " answers are not as due");
        if (wrong != 0) {
            System.exit(1);
        }
    }

    private int discriminant() {
        for (;;) {
            int d = random.nextInt(3) == 0 ? random.nextInt(121) - 60 : random.nextInt(8001) - 4000;
            if (SlowForms.isDiscriminant(d)) {
                return d;
            }
        }
    }

    private boolean same(String call, long got, long due) {
        calls++;
        told.append(call).append(' ');
        if (got == due && fast.trouble() == slow.trouble()) {
            return true;
        }
        wrong++;
        System.out.println("run " + run + " call " + calls + ": " + call + " answered " + got + ", trouble "
            + fast.trouble() + ", due is " + due + ", trouble " + slow.trouble());
        System.out.println("  " + told);
        return false;
    }

    private void play() {
        int before = wrong;
        while (calls < CALLS && wrong == before) {
            playOne();
        }
    }

    private int odd() {
        return ODD[random.nextInt(ODD.length)];
    }

    private int place() {
        int size = slow.size(0);
        return random.nextInt(12) == 0 || size == 0 ? (random.nextBoolean() ? odd() : size) : random.nextInt(size);
    }

    private int classNumber() {
        int count = slow.classes();
        return random.nextInt(12) == 0 ? (random.nextBoolean() ? odd() : count) : random.nextInt(count);
    }

    private int among(int low, int high) {
        return random.nextInt(10) == 0 ? odd() : low + random.nextInt(high - low + 1);
    }

    private void playOne() {
        if (run % 3 == 0) {
            playActs();
            return;
        }
        switch (random.nextInt(24)) {
            case 0: playRoot(); break;
            case 1: case 2: case 3: case 4: playForm(); break;
            case 5: case 6: playStep(); break;
            case 7: case 8: playReduce(); break;
            case 9: playLook(); break;
            case 10: playRing(); break;
            case 11: playCheck(); break;
            case 12: case 13: playClasses(); break;
            case 14: playGroup(); break;
            case 15: playUnit(); break;
            case 16: playQuotients(); break;
            case 17: playTakes(); break;
            case 18: playProper(); break;
            case 19: playSquares(); break;
            case 20: playUndo(); break;
            case 21: playUndos(); break;
            default: playSizes(); break;
        }
    }

    /** Acts alone, so that the shelf fills and the log goes round. */
    private void playActs() {
        int place = place();
        int turn = random.nextInt(20);
        if (turn < 9) {
            int[] ab = someForm();
            same("form(" + ab[0] + "," + ab[1] + ")", fast.form(ab[0], ab[1]), slow.form(ab[0], ab[1]));
        } else if (turn < 14) {
            same("step(" + place + ")", fast.step(place), slow.step(place));
        } else if (turn < 17) {
            same("reduce(" + place + ")", fast.reduce(place), slow.reduce(place));
        } else if (turn < 19) {
            same("undo()", fast.undo(), slow.undo());
        } else if (calls > 150 && random.nextInt(4) == 0) {
            playUndos();
        } else if (calls < 20) {
            playRoot();
        } else {
            playSizes();
        }
    }

    private void playRoot() {
        if (random.nextInt(3) != 0) {
            return;
        }
        int d = random.nextInt(4) == 0 ? (random.nextBoolean() ? odd() : random.nextInt(80) - 40)
            : grounds[random.nextInt(grounds.length)];
        same("root(" + d + ")", fast.root(d) ? 1 : 0, slow.root(d) ? 1 : 0);
    }

    /** A head led on by some substitution, so that most are forms; some only almost. */
    private int[] someForm() {
        int i = random.nextInt(slow.classes());
        long a = slow.head(i, 0);
        long b = slow.head(i, 1);
        long c = slow.head(i, 2);
        int turns = random.nextInt(6);
        for (int k = 0; k < turns; k++) {
            long t = random.nextInt(random.nextInt(5) == 0 ? 200 : 6) - 2;
            long nextC = a * t * t + b * t + c;
            long nextB = b + 2 * a * t;
            if (Math.abs(nextC) > 1_500_000 || Math.abs(nextB) > 1_500_000) {
                break;
            }
            c = a;
            a = nextC;
            b = -nextB;
        }
        if (random.nextInt(15) == 0) {
            b += random.nextInt(3) - 1;
        }
        if (random.nextInt(15) == 0) {
            a = -a;
        }
        return new int[] {(int) a, (int) b};
    }

    private void playForm() {
        int[] ab = random.nextInt(12) == 0 ? new int[] {odd(), odd()}
            : random.nextInt(12) == 0 ? new int[] {random.nextInt(40) - 10, random.nextInt(40) - 20} : someForm();
        same("form(" + ab[0] + "," + ab[1] + ")", fast.form(ab[0], ab[1]), slow.form(ab[0], ab[1]));
        int last = slow.size(0) - 1;
        for (int what = 0; what < 3; what++) {
            same("number(" + last + "," + what + ")", fast.number(last, what), slow.number(last, what));
        }
    }

    private void lookAt(int place) {
        for (int what = 0; what < 3; what++) {
            same("number(" + place + "," + what + ")", fast.number(place, what), slow.number(place, what));
        }
        for (int k = 0; k < 4; k++) {
            same("way(" + k + ")", fast.way(k), slow.way(k));
        }
    }

    private void playStep() {
        int place = place();
        same("step(" + place + ")", fast.step(place), slow.step(place));
        lookAt(place);
    }

    private void playReduce() {
        int place = place();
        same("reduce(" + place + ")", fast.reduce(place), slow.reduce(place));
        lookAt(place);
    }

    private void playLook() {
        int place = place();
        int what = among(-1, 3);
        same("number(" + place + "," + what + ")", fast.number(place, what), slow.number(place, what));
        same("way(" + what + ")", fast.way(what), slow.way(what));
        same("least(" + place + ")", fast.least(place), slow.least(place));
    }

    private void playRing() {
        int place = place();
        same("ring(" + place + ")", fast.ring(place), slow.ring(place));
        same("classOf(" + place + ")", fast.classOf(place), slow.classOf(place));
    }

    private void check(int place, int other, int[] m) {
        same("check(" + place + "," + other + "," + m[0] + "," + m[1] + "," + m[2] + "," + m[3] + ")",
            fast.check(place, other, m[0], m[1], m[2], m[3]), slow.check(place, other, m[0], m[1], m[2], m[3]));
    }

    private void playCheck() {
        int place = place();
        switch (random.nextInt(4)) {
            case 0:
                check(place, place(), new int[] {among(-2, 2), among(-2, 2), among(-2, 2), among(-2, 2)});
                break;
            case 1:
                check(place, place, new int[] {1, 0, 0, 1});
                check(place, place, new int[] {-1, 0, 0, -1});
                check(place, place, new int[] {0, -1, 1, 0});
                break;
            case 2:
                check(place, place, new int[] {1, 1_000_000, 0, 1});
                check(place, place, new int[] {1_000_000, 999_999, 1, 1});
                check(place, place, new int[] {999_999, 1_000_000, -1_000_000, -1_000_001});
                break;
            default:
                checkReduced(place);
                break;
        }
    }

    private void checkReduced(int place) {
        int a = slow.number(place, 0);
        int b = slow.number(place, 1);
        int other = slow.form(a, b);
        same("form(" + a + "," + b + ")", fast.form(a, b), other);
        same("reduce(" + other + ")", fast.reduce(other), slow.reduce(other));
        int[] m = {(int) slow.way(0), (int) slow.way(1), (int) slow.way(2), (int) slow.way(3)};
        check(place, other, m);
        check(other, place, new int[] {m[3], -m[1], -m[2], m[0]});
        check(other, place, m);
    }

    private void playClasses() {
        int i = classNumber();
        int j = classNumber();
        int what = among(-1, 3);
        same("classes()", fast.classes(), slow.classes());
        same("head(" + i + "," + what + ")", fast.head(i, what), slow.head(i, what));
        same("one()", fast.one(), slow.one());
        same("join(" + i + "," + j + ")", fast.join(i, j), slow.join(i, j));
        same("back(" + i + ")", fast.back(i), slow.back(i));
    }

    private void playGroup() {
        int i = classNumber();
        int k = among(-1, 4);
        same("order(" + i + ")", fast.order(i), slow.order(i));
        same("group(" + k + ")", fast.group(k), slow.group(k));
        same("genus(" + i + ")", fast.genus(i), slow.genus(i));
        same("genera()", fast.genera(), slow.genera());
    }

    private void playUnit() {
        int what = among(-1, 3);
        same("unit(" + what + ")", fast.unit(what), slow.unit(what));
    }

    private void playQuotients() {
        if (random.nextInt(5) != 0) {
            return;
        }
        int n = random.nextInt(6) == 0 ? odd() : random.nextInt(4) == 0 ? among(-1, 26) : among(2, 10_000);
        same("period(" + n + ")", fast.period(n), slow.period(n));
        for (int turn = 0; turn < 4; turn++) {
            int k = among(-1, turn < 2 ? 40 : 1001);
            same("quotient(" + n + "," + k + ")", fast.quotient(n, k), slow.quotient(n, k));
            same("near(" + n + "," + k + ",false)", fast.near(n, k, false), slow.near(n, k, false));
            same("near(" + n + "," + k + ",true)", fast.near(n, k, true), slow.near(n, k, true));
        }
    }

    private void lookAtPairs() {
        same("size(1)", fast.size(1), slow.size(1));
        int size = slow.size(1);
        for (int turn = 0; turn < 4; turn++) {
            int i = random.nextInt(5) == 0 || size == 0 ? odd() : turn == 0 ? size - 1 : random.nextInt(size);
            same("pair(" + i + ",false)", fast.pair(i, false), slow.pair(i, false));
            same("pair(" + i + ",true)", fast.pair(i, true), slow.pair(i, true));
        }
    }

    private void playTakes() {
        int place = place();
        int n;
        if (random.nextInt(3) == 0 && slow.size(0) > 0) {
            long x = random.nextInt(41) - 20;
            long y = random.nextInt(41) - 20;
            long worth = slow.number(place, 0) * x * x + slow.number(place, 1) * x * y + slow.number(place, 2) * y * y;
            n = (int) Math.min(worth, 200_000);
        } else {
            n = random.nextInt(3) == 0 ? among(1, 60) : among(1, 100_000);
        }
        same("takes(" + place + "," + n + ")", fast.takes(place, n), slow.takes(place, n));
        lookAtPairs();
    }

    private void playProper() {
        int place = place();
        int n = random.nextInt(4) == 0 ? among(-20_000, 20_000) : among(-60, 60);
        same("proper(" + place + "," + n + ")", fast.proper(place, n), slow.proper(place, n));
    }

    private void playSquares() {
        int x = random.nextInt(200);
        int y = random.nextInt(200);
        int n = random.nextInt(3) == 0 ? x * x + y * y : random.nextInt(8) == 0 ? 243_061_325 : among(0, 1000);
        same("squares(" + n + ")", fast.squares(n), slow.squares(n));
        lookAtPairs();
    }

    private void playUndo() {
        same("undo()", fast.undo(), slow.undo());
        int place = place();
        lookAt(place);
    }

    private void playUndos() {
        int turns = random.nextInt(12) == 0 ? 70 : random.nextInt(5) == 0 ? 12 : 1;
        for (int k = 0; k < turns; k++) {
            same("undo()", fast.undo(), slow.undo());
        }
        for (int place = 0; place < 40; place += 7) {
            lookAt(place);
        }
    }

    private void playSizes() {
        for (int what = -1; what < 5; what++) {
            same("size(" + what + ")", fast.size(what), slow.size(what));
        }
        same("trouble()", fast.trouble(), slow.trouble());
    }
}
