import java.util.Arrays;

/** What the tests of promises share: an answer is compared with the one due, and what is wrong is told and counted. */
abstract class Checks {

    static final int NONE = RootForms.NONE;
    static final int MIN = Integer.MIN_VALUE;
    static final int MAX = Integer.MAX_VALUE;
    static final int MILLION = 1_000_000;
    /* Furnished houses have two FORMS, so these are no places there. */
    static final int[] NO_PLACES = {-1, 2, 39, 40, MIN, MAX};

    private static int wrong = 0;
    private static String sentence = "";

    /** A call on an object; a boolean answer counts 1 or 0. */
    interface Call {
        long on(RootForms x);
    }

    /** A boundary case, under the words of the document that name it. */
    static void edge(String words, Runnable test) {
        about(words);
        test.run();
    }

    static void about(String words) {
        sentence = words;
    }

    static void end() {
        System.out.println(wrong == 0 ? "all answers are as due" : wrong + " answers are not as due");
        if (wrong != 0) {
            System.exit(1);
        }
    }

    static void due(String call, long got, long want) {
        if (got != want) {
            wrong++;
            System.out.println(sentence + ": " + call + " answered " + got + ", due is " + want);
        }
    }

    static void holds(String what, boolean it) {
        due(what, it ? 1 : 0, 1);
    }

    static void refused(RootForms x, String call, long got, int why) {
        due(call, got, NONE);
        due("trouble() behind " + call, x.trouble(), why);
    }

    static void accepted(RootForms x, String call, long got, long want) {
        due(call, got, want);
        due("trouble() behind " + call, x.trouble(), 0);
    }

    static RootForms of(int d) {
        RootForms x = new RootForms();
        due("root(" + d + ")", x.root(d) ? 1 : 0, 1);
        return x;
    }

    /** Of D, with two FORMS on the SHELF, three acts, a WAY that is not that of none, and two pairs in OUT. */
    static RootForms furnished(int d) {
        RootForms x = of(d);
        due("form of a furnished house", x.form(1, d & 1), 0);
        due("form of a furnished house", x.form(1, (d & 1) + 2), 1);
        due("step of a furnished house", x.step(1), 1);
        due("squares of a furnished house", x.squares(25), 2);
        return x;
    }

    /** Of D -23, with 40 FORMS (1, 1, 6), (1, 3, 8), (1, 5, 12) .. */
    static RootForms full() {
        RootForms x = of(-23);
        for (int i = 0; i < 40; i++) {
            due("form(1, " + (2 * i + 1) + ")", x.form(1, 2 * i + 1), i);
        }
        return x;
    }

    /** All that can be seen of an object without a call that may be refused. */
    static long[] state(RootForms x) {
        int places = x.size(0);
        int pairs = x.size(1);
        long[] seen = new long[8 + 3 * places + 2 * pairs];
        int next = 0;
        for (int k = 0; k < 4; k++) {
            seen[next++] = x.size(k);
            seen[next++] = x.way(k);
        }
        for (int i = 0; i < 3 * places; i++) {
            seen[next++] = x.number(i / 3, i % 3);
        }
        for (int i = 0; i < 2 * pairs; i++) {
            seen[next++] = x.pair(i / 2, i % 2 == 1);
        }
        return seen;
    }

    /** The call is refused for this reason, and all stays. */
    static void refusedAndStays(RootForms x, String call, Call made, int why) {
        long[] before = state(x);
        refused(x, call, made.on(x), why);
        holds("all stays behind " + call, Arrays.equals(before, state(x)));
    }

    /** On a furnished house of D of its own. */
    static void refusedOf(int d, String call, Call made, int why) {
        refusedAndStays(furnished(d), call + " of D " + d, made, why);
    }

    /** On a furnished house of D of its own, behind a call that was refused. */
    static void acceptedOf(int d, String call, Call made, long want) {
        RootForms x = furnished(d);
        x.root(0);
        due("trouble() behind root(0)", x.trouble(), 1);
        accepted(x, call + " of D " + d, made.on(x), want);
    }

    static void dueForm(RootForms x, int place, int a, int b, int c) {
        due("number(" + place + ", 0)", x.number(place, 0), a);
        due("number(" + place + ", 1)", x.number(place, 1), b);
        due("number(" + place + ", 2)", x.number(place, 2), c);
    }

    static void dueWay(RootForms x, long p, long q, long r, long s) {
        due("way(0)", x.way(0), p);
        due("way(1)", x.way(1), q);
        due("way(2)", x.way(2), r);
        due("way(3)", x.way(3), s);
    }

    static void dueLeast(int d, int a, int b, int want) {
        RootForms x = of(d);
        due("form(" + a + ", " + b + ") of " + d, x.form(a, b), 0);
        x.root(0);
        accepted(x, "least of (" + a + ", " + b + ") of " + d, x.least(0), want);
        due("number(0, 0)", x.number(0, 0), a);
        due("size(2)", x.size(2), 1);
        due("reduce of (" + a + ", " + b + ") of " + d + " is 0", x.reduce(0) == 0 ? 1 : 0, want);
    }

    static void dueHead(RootForms x, int i, int a, int b, int c) {
        due("head(" + i + ", 0)", x.head(i, 0), a);
        due("head(" + i + ", 1)", x.head(i, 1), b);
        due("head(" + i + ", 2)", x.head(i, 2), c);
    }

    /** OUT has just these pairs. */
    static void duePairs(RootForms x, int... numbers) {
        int pairs = numbers.length / 2;
        due("size(1)", x.size(1), pairs);
        for (int i = 0; i < pairs; i++) {
            due("pair(" + i + ", false)", x.pair(i, false), numbers[2 * i]);
            due("pair(" + i + ", true)", x.pair(i, true), numbers[2 * i + 1]);
        }
        due("pair(" + pairs + ", false)", x.pair(pairs, false), MIN);
        due("pair(" + pairs + ", true)", x.pair(pairs, true), MIN);
    }
}
