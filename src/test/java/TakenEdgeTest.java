import java.lang.reflect.Constructor;
import java.lang.reflect.Field;
import java.lang.reflect.Method;

/** The boundary cases of what is taken (promises 25 to 28), each with a test of its own. */
public final class TakenEdgeTest extends Checks {

    public static void main(String[] args) {
        edge("promise 25: n 1 .. 100,000", TakenEdgeTest::takesRange);
        edge("promise 25: NONE: 2", TakenEdgeTest::takesNoPlace);
        edge("promise 25: 5 (D above 0)", TakenEdgeTest::takesSign);
        edge("promise 25: 2, else 5, else 1", TakenEdgeTest::takesOrder);
        edge("promise 25: NONE, and OUT stays", TakenEdgeTest::takesStays);
        edge("promise 25: none: OUT is empty", TakenEdgeTest::takesNothing);
        edge("promise 25: whole, also below 0, by x, then y", TakenEdgeTest::takesInOrder);
        edge("promise 25: FORMS at the bound", TakenEdgeTest::takesGreatest);
        edge("promise 25: the most pairs of all", TakenEdgeTest::takesMost);
        edge("promises 25, 27: OUT has the first 200", TakenEdgeTest::outIsCut);
        edge("promise 26: n -20,000 .. 20,000", TakenEdgeTest::properRange);
        edge("promise 26: not 0, with D below 0 above 0", TakenEdgeTest::properSign);
        edge("promise 26: b from 0 to 2 |n| - 1", TakenEdgeTest::properEnds);
        edge("promise 26: a FORM of D: no number above 1 divides all three", TakenEdgeTest::properDivisor);
        edge("promise 26: of the CLASS of the FORM in a place", TakenEdgeTest::properClass);
        edge("promise 26: NONE: 2, else 1", TakenEdgeTest::properOrder);
        edge("promise 26: OUT, and the FORM, stay", TakenEdgeTest::properStays);
        edge("promise 27: n 0 .. 1,000,000,000", TakenEdgeTest::squaresRange);
        edge("promise 27: 0 <= x", TakenEdgeTest::squaresWithNought);
        edge("promise 27: x <= y", TakenEdgeTest::squaresAlike);
        edge("promise 27: none: OUT is empty", TakenEdgeTest::squaresNothing);
        edge("promise 27: NONE, and OUT stays (1)", TakenEdgeTest::squaresRefused);
        edge("promise 27: the most pairs of all, by x", TakenEdgeTest::squaresMost);
        edge("promise 28: Integer.MIN_VALUE where OUT is empty", TakenEdgeTest::pairOfNone);
        edge("promise 28: Integer.MIN_VALUE if there is none such", TakenEdgeTest::pairPlaces);
        end();
    }

    private static void takesRange() {
        acceptedOf(-4, "takes(0, 1)", x -> x.takes(0, 1), 4);
        acceptedOf(-4, "takes(0, 99999)", x -> x.takes(0, 99_999), 0);
        acceptedOf(-4, "takes(0, 100000)", x -> x.takes(0, 100_000), 24);
        for (int n : new int[] {0, -1, -4, 100_001, 100_004, MAX, MIN}) {
            refusedOf(-4, "takes(0, " + n + ")", x -> x.takes(0, n), 1);
        }
    }

    private static void takesNoPlace() {
        for (int place : NO_PLACES) {
            refusedOf(-4, "takes(" + place + ", 1)", x -> x.takes(place, 1), 2);
        }
        RootForms x = of(-4);
        refusedAndStays(x, "takes(0, 1) of an empty SHELF", y -> y.takes(0, 1), 2);
        x = full();
        accepted(x, "takes(39, 6) of a full SHELF", x.takes(39, 6), 4);
        refused(x, "takes(40, 6) of a full SHELF", x.takes(40, 6), 2);
    }

    private static void takesSign() {
        for (int d : new int[] {5, 8, 4000}) {
            refusedOf(d, "takes(0, 1)", x -> x.takes(0, 1), 5);
            refusedOf(d, "takes(1, 100000)", x -> x.takes(1, 100_000), 5);
        }
        acceptedOf(-3, "takes(0, 1)", x -> x.takes(0, 1), 6);
        acceptedOf(-4000, "takes(0, 1)", x -> x.takes(0, 1), 2);
    }

    private static void takesOrder() {
        refusedOf(5, "takes(2, 0): 2 ahead of 5 and 1", x -> x.takes(2, 0), 2);
        refusedOf(5, "takes(-1, 1): 2 ahead of 5", x -> x.takes(-1, 1), 2);
        refusedOf(-4, "takes(2, 100001): 2 ahead of 1", x -> x.takes(2, 100_001), 2);
        refusedOf(5, "takes(0, 0): 5 ahead of 1", x -> x.takes(0, 0), 5);
        refusedOf(5, "takes(0, 100001): 5 ahead of 1", x -> x.takes(0, 100_001), 5);
        refusedOf(-4, "takes(0, 0): 1", x -> x.takes(0, 0), 1);
    }

    private static void takesStays() {
        RootForms x = of(-4);
        x.form(1, 0);
        accepted(x, "takes(0, 1)", x.takes(0, 1), 4);
        refused(x, "takes(1, 1)", x.takes(1, 1), 2);
        duePairs(x, -1, 0, 0, -1, 0, 1, 1, 0);
        refused(x, "takes(0, 0)", x.takes(0, 0), 1);
        duePairs(x, -1, 0, 0, -1, 0, 1, 1, 0);
        x.root(5);
        x.form(1, 1);
        refused(x, "takes(0, 1)", x.takes(0, 1), 5);
        duePairs(x, -1, 0, 0, -1, 0, 1, 1, 0);
    }

    private static void takesNothing() {
        RootForms x = furnished(-4);
        due("size(1)", x.size(1), 2);
        accepted(x, "takes(0, 3)", x.takes(0, 3), 0);
        duePairs(x);
    }

    private static void takesInOrder() {
        RootForms x = of(-4);
        x.form(1, 0);
        accepted(x, "takes(0, 5)", x.takes(0, 5), 8);
        duePairs(x, -2, -1, -2, 1, -1, -2, -1, 2, 1, -2, 1, 2, 2, -1, 2, 1);
        /* x = 0 and y = 0 are counted once for each sign of the other one. */
        accepted(x, "takes(0, 4)", x.takes(0, 4), 4);
        duePairs(x, -2, 0, 0, -2, 0, 2, 2, 0);
        x.form(2, 2);
        accepted(x, "takes(1, 1)", x.takes(1, 1), 4);
        duePairs(x, -1, 1, 0, -1, 0, 1, 1, -1);
    }

    private static void takesGreatest() {
        RootForms x = of(-3999);
        x.form(1, 1999);
        x.form(MILLION, 1999);
        accepted(x, "takes(0, 1)", x.takes(0, 1), 2);
        duePairs(x, -1, 0, 1, 0);
        accepted(x, "takes(1, 1)", x.takes(1, 1), 2);
        duePairs(x, 0, -1, 0, 1);
        accepted(x, "takes(1, 100000)", x.takes(1, 100_000), 8);
        for (int i = 0; i < 8; i++) {
            long one = x.pair(i, false);
            long other = x.pair(i, true);
            due("worth of pair " + i, 1_000_000 * one * one + 1999 * one * other + other * other, 100_000);
        }
        x = of(-4);
        x.form(501_001, MILLION);
        accepted(x, "takes(0, 1)", x.takes(0, 1), 4);
        duePairs(x, -500, 501, -499, 500, 499, -500, 500, -501);
    }

    private static void takesMost() {
        RootForms x = of(-3);
        x.form(1, 1);
        accepted(x, "takes(0, 53599)", x.takes(0, 53_599), 96);
        due("size(1)", x.size(1), 96);
        long before = Long.MIN_VALUE;
        for (int i = 0; i < 96; i++) {
            long one = x.pair(i, false);
            long other = x.pair(i, true);
            due("worth of pair " + i, one * one + one * other + other * other, 53_599);
            holds("pair " + i + " is behind the one ahead", one * 10_000 + other > before);
            before = one * 10_000 + other;
        }
        due("pair(96, false)", x.pair(96, false), MIN);
    }

    /** No call comes to 200 pairs (96 are the most), so OUT alone is filled here, from both ends. */
    private static void outIsCut() {
        try {
            Class<?> kind = Class.forName("RootForms$Pairs");
            Constructor<?> maker = kind.getDeclaredConstructor();
            maker.setAccessible(true);
            Object out = maker.newInstance();
            Method insert = kind.getDeclaredMethod("insert", int.class, int.class);
            insert.setAccessible(true);
            for (int i = 0; i < 150; i++) {
                insert.invoke(out, i / 2, i % 2);
                insert.invoke(out, (299 - i) / 2, (299 - i) % 2);
            }
            due("pairs in OUT", (int) inside(kind, "count", out), 200);
            int[] xs = (int[]) inside(kind, "xs", out);
            int[] ys = (int[]) inside(kind, "ys", out);
            for (int i = 0; i < 200; i++) {
                due("x of pair " + i, xs[i], i / 2);
                due("y of pair " + i, ys[i], i % 2);
            }
        } catch (ReflectiveOperationException trouble) {
            holds("OUT can be looked at: " + trouble, false);
        }
    }

    private static Object inside(Class<?> kind, String name, Object owner) throws ReflectiveOperationException {
        Field field = kind.getDeclaredField(name);
        field.setAccessible(true);
        return field.get(owner);
    }

    private static void properRange() {
        acceptedOf(-31, "proper(0, 20000)", x -> x.proper(0, 20_000), 2);
        acceptedOf(-31, "proper(0, 1)", x -> x.proper(0, 1), 1);
        acceptedOf(41, "proper(0, 20000)", x -> x.proper(0, 20_000), 4);
        acceptedOf(41, "proper(0, -20000)", x -> x.proper(0, -20_000), 4);
        acceptedOf(209, "proper(0, -20000)", x -> x.proper(0, -20_000), 4);
        acceptedOf(209, "proper(0, 20000)", x -> x.proper(0, 20_000), 0);
        for (int n : new int[] {20_001, -20_001, MAX, MIN, MIN + 1}) {
            refusedOf(-31, "proper(0, " + n + ")", x -> x.proper(0, n), 1);
            refusedOf(41, "proper(0, " + n + ")", x -> x.proper(0, n), 1);
        }
    }

    private static void properSign() {
        refusedOf(-4, "proper(0, 0)", x -> x.proper(0, 0), 1);
        refusedOf(5, "proper(0, 0)", x -> x.proper(0, 0), 1);
        refusedOf(-4, "proper(0, -1)", x -> x.proper(0, -1), 1);
        refusedOf(-4, "proper(0, -20000)", x -> x.proper(0, -20_000), 1);
        acceptedOf(-4, "proper(0, 1)", x -> x.proper(0, 1), 1);
        acceptedOf(5, "proper(0, 1)", x -> x.proper(0, 1), 1);
        acceptedOf(5, "proper(0, -1)", x -> x.proper(0, -1), 1);
        acceptedOf(12, "proper(0, -1)", x -> x.proper(0, -1), 0);
    }

    private static void properEnds() {
        /* b 0 alone, so that a b of 2 |n| would be one too many. */
        acceptedOf(-4, "proper(0, 1)", x -> x.proper(0, 1), 1);
        acceptedOf(-20, "proper(0, 5)", x -> x.proper(0, 5), 1);
        acceptedOf(8, "proper(0, -2)", x -> x.proper(0, -2), 1);
        /* b 1 and 2 |n| - 1 alone. */
        acceptedOf(-3, "proper(0, 1)", x -> x.proper(0, 1), 1);
        acceptedOf(-7, "proper(0, 2)", x -> x.proper(0, 2), 2);
        acceptedOf(-11, "proper(0, 3)", x -> x.proper(0, 3), 2);
        acceptedOf(-19, "proper(0, 5)", x -> x.proper(0, 5), 2);
        acceptedOf(17, "proper(0, -2)", x -> x.proper(0, -2), 2);
        acceptedOf(13, "proper(0, -3)", x -> x.proper(0, -3), 2);
    }

    private static void properDivisor() {
        /* (2, 2, 2) of -12 and (3, 3, 3) of -27 are none. */
        acceptedOf(-12, "proper(0, 2)", x -> x.proper(0, 2), 0);
        acceptedOf(-12, "proper(0, 4)", x -> x.proper(0, 4), 2);
        acceptedOf(-27, "proper(0, 3)", x -> x.proper(0, 3), 0);
        acceptedOf(-16, "proper(0, 4)", x -> x.proper(0, 4), 1);
    }

    private static void properClass() {
        RootForms x = of(-23);
        x.form(1, 1);
        x.form(2, 1);
        x.form(2, -1);
        x.form(6, 5);
        accepted(x, "proper(0, 6)", x.proper(0, 6), 2);
        accepted(x, "proper(1, 6)", x.proper(1, 6), 1);
        accepted(x, "proper(2, 6)", x.proper(2, 6), 1);
        accepted(x, "proper(3, 6)", x.proper(3, 6), 1);
        accepted(x, "proper(0, 2)", x.proper(0, 2), 0);
        accepted(x, "proper(1, 2)", x.proper(1, 2), 1);
        accepted(x, "proper(0, 5)", x.proper(0, 5), 0);
    }

    private static void properOrder() {
        for (int place : NO_PLACES) {
            refusedOf(-4, "proper(" + place + ", 1)", x -> x.proper(place, 1), 2);
            refusedOf(5, "proper(" + place + ", 0): 2 ahead of 1", x -> x.proper(place, 0), 2);
            refusedOf(-4, "proper(" + place + ", -1): 2 ahead of 1", x -> x.proper(place, -1), 2);
            refusedOf(-4, "proper(" + place + ", 20001): 2 ahead of 1", x -> x.proper(place, 20_001), 2);
        }
        refusedAndStays(of(-4), "proper(0, 1) of an empty SHELF", x -> x.proper(0, 1), 2);
        RootForms x = full();
        accepted(x, "proper(39, 6) of a full SHELF", x.proper(39, 6), 2);
        refused(x, "proper(40, 6) of a full SHELF", x.proper(40, 6), 2);
    }

    private static void properStays() {
        RootForms x = furnished(-4);
        accepted(x, "proper(1, 5)", x.proper(1, 5), 2);
        duePairs(x, 0, 5, 3, 4);
        dueForm(x, 1, 2, 2, 1);
        dueWay(x, 0, -1, 1, 1);
        due("size(2)", x.size(2), 3);
    }

    private static void squaresRange() {
        acceptedOf(-4, "squares(0)", x -> x.squares(0), 1);
        acceptedOf(5, "squares(999999998)", x -> x.squares(999_999_998), 0);
        acceptedOf(5, "squares(999999999)", x -> x.squares(999_999_999), 0);
        acceptedOf(-4, "squares(1000000000)", x -> x.squares(1_000_000_000), 5);
        RootForms x = new RootForms();
        accepted(x, "squares(1000000000)", x.squares(1_000_000_000), 5);
        duePairs(x, 1200, 31_600, 7696, 30_672, 10_000, 30_000, 18_000, 26_000, 19_920, 24_560);
        /* 1,000,000,009 would have a pair. */
        for (int n : new int[] {-1, -2, -25, 1_000_000_001, 1_000_000_009, MAX, MIN}) {
            refusedOf(-4, "squares(" + n + ")", y -> y.squares(n), 1);
        }
    }

    private static void squaresWithNought() {
        RootForms x = new RootForms();
        accepted(x, "squares(0)", x.squares(0), 1);
        duePairs(x, 0, 0);
        accepted(x, "squares(1)", x.squares(1), 1);
        duePairs(x, 0, 1);
        accepted(x, "squares(4)", x.squares(4), 1);
        duePairs(x, 0, 2);
        accepted(x, "squares(999950884)", x.squares(999_950_884), 2);
        due("pair(0, false)", x.pair(0, false), 0);
        due("pair(0, true)", x.pair(0, true), 31_622);
    }

    private static void squaresAlike() {
        RootForms x = new RootForms();
        accepted(x, "squares(2)", x.squares(2), 1);
        duePairs(x, 1, 1);
        accepted(x, "squares(5)", x.squares(5), 1);
        duePairs(x, 1, 2);
        accepted(x, "squares(50)", x.squares(50), 2);
        duePairs(x, 1, 7, 5, 5);
        accepted(x, "squares(999939200)", x.squares(999_939_200), 5);
        due("pair(4, false)", x.pair(4, false), 22_360);
        due("pair(4, true)", x.pair(4, true), 22_360);
    }

    private static void squaresNothing() {
        RootForms x = furnished(-4);
        due("size(1)", x.size(1), 2);
        accepted(x, "squares(3)", x.squares(3), 0);
        duePairs(x);
    }

    private static void squaresRefused() {
        RootForms x = of(-4);
        refused(x, "squares(-1) with an empty OUT", x.squares(-1), 1);
        duePairs(x);
        x.form(1, 0);
        x.takes(0, 1);
        refused(x, "squares(-1)", x.squares(-1), 1);
        duePairs(x, -1, 0, 0, -1, 0, 1, 1, 0);
        refused(x, "squares(1000000001)", x.squares(1_000_000_001), 1);
        duePairs(x, -1, 0, 0, -1, 0, 1, 1, 0);
    }

    private static void squaresMost() {
        RootForms x = new RootForms();
        accepted(x, "squares(243061325)", x.squares(243_061_325), 48);
        due("size(1)", x.size(1), 48);
        long before = -1;
        for (int i = 0; i < 48; i++) {
            long one = x.pair(i, false);
            long other = x.pair(i, true);
            due("sum of pair " + i, one * one + other * other, 243_061_325);
            holds("pair " + i + " is in order", before < one && one <= other);
            before = one;
        }
        due("pair(48, true)", x.pair(48, true), MIN);
    }

    private static void pairOfNone() {
        RootForms x = new RootForms();
        x.root(0);
        for (int i : new int[] {0, 1, -1, 199, 200, MIN, MAX}) {
            due("pair(" + i + ", false)", x.pair(i, false), MIN);
            due("pair(" + i + ", true)", x.pair(i, true), MIN);
        }
        due("trouble() of root", x.trouble(), 1);
    }

    private static void pairPlaces() {
        RootForms x = furnished(-4);
        x.root(0);
        due("pair(0, false)", x.pair(0, false), 0);
        due("pair(0, true)", x.pair(0, true), 5);
        due("pair(1, false)", x.pair(1, false), 3);
        due("pair(1, true)", x.pair(1, true), 4);
        for (int i : new int[] {-1, 2, 199, 200, 201, MIN, MAX}) {
            due("pair(" + i + ", false)", x.pair(i, false), MIN);
            due("pair(" + i + ", true)", x.pair(i, true), MIN);
        }
        due("trouble() of root", x.trouble(), 1);
        /* Pairs that were there before are not seen behind fewer ones. */
        x.takes(0, 1);
        x.squares(1);
        duePairs(x, 0, 1);
    }
}
