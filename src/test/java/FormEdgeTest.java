import java.util.Arrays;

/** The boundary cases of forms (promises 1 to 8, 'Terms' I and II), each with a test of its own. */
public final class FormEdgeTest extends Checks {

    public static void main(String[] args) {
        edge("promise 1: D is -4; the SHELF and OUT are empty", FormEdgeTest::newObject);
        edge("promise 1: a new object has nothing of another one", FormEdgeTest::newBesideAnother);
        edge("I: D -4,000 .. 4,000", FormEdgeTest::rootRange);
        edge("I: D with a rest of 0 or 1 by 4 (from 0 on)", FormEdgeTest::rootRest);
        edge("I: D no square (nor 0)", FormEdgeTest::rootSquare);
        edge("promise 2: D becomes it, the SHELF is empty, nothing can be taken back", FormEdgeTest::rootEmpties);
        edge("promise 2: false (1)", FormEdgeTest::rootRefused);
        forms();
        leasts();
        steps();
        end();
    }

    private static void forms() {
        edge("promise 3: 1 where a is 0", FormEdgeTest::formOfNoA);
        edge("promise 3: 1 where a is beyond 1,000,000", FormEdgeTest::formA);
        edge("promise 3: 1 where b is beyond 1,000,000", FormEdgeTest::formB);
        edge("I: no c beyond 1,000,000", FormEdgeTest::formC);
        edge("I: no number above 1 divides all three", FormEdgeTest::formDivisor);
        edge("I: with D below 0, a above 0", FormEdgeTest::formSign);
        edge("promise 3: 4 where c is not whole", FormEdgeTest::formNotWhole);
        edge("I: a SHELF of 40, promise 3: 3", FormEdgeTest::formRoom);
        edge("promise 3: 1, else 4, else 3", FormEdgeTest::formOrder);
        edge("promise 3: the same FORM lies in two places", FormEdgeTest::formTwice);
        edge("promise 4: 0 if there is no such place", FormEdgeTest::numberPlace);
        edge("promise 4: what 0 a, 1 b, 2 c, 0 for others", FormEdgeTest::numberWhat);
    }

    private static void leasts() {
        edge("II, D below 0: |b| at most a", FormEdgeTest::leastBelowB);
        edge("II, D below 0: a at most c", FormEdgeTest::leastBelowC);
        edge("II, D above 0: 0 < b", FormEdgeTest::leastAboveZero);
        edge("II, D above 0: b <= R", FormEdgeTest::leastAboveR);
        edge("II, D above 0: R - b < 2 |a|", FormEdgeTest::leastAboveLow);
        edge("II, D above 0: 2 |a| <= R + b", FormEdgeTest::leastAboveHigh);
        edge("promise 5: NONE (2)", FormEdgeTest::leastRefused);
    }

    private static void steps() {
        edge("II, D below 0: -|c| < r <= |c|", FormEdgeTest::stepBelow);
        edge("II, |c| above R: -|c| < r <= |c|", FormEdgeTest::stepGreatC);
        edge("II, |c| at most R: R - 2 |c| < r <= R", FormEdgeTest::stepSmallC);
        edge("II, |c| R, and one more", FormEdgeTest::stepAroundR);
        edge("II: a STEP with numbers at the bound", FormEdgeTest::stepGreatest);
        edge("promise 6: NONE (2)", FormEdgeTest::stepRefused);
        edge("promise 7: a LEAST one needs none", FormEdgeTest::reduceNone);
        edge("promise 7: numbers at the bound", FormEdgeTest::reduceGreatest);
        edge("promise 7: NONE (2)", FormEdgeTest::reduceRefused);
        edge("promise 8: of none 1, 0, 0, 1", FormEdgeTest::wayOfNone);
        edge("promise 8: 0 for others", FormEdgeTest::wayOthers);
        edge("promise 8: of the latest that was accepted", FormEdgeTest::wayLatest);
    }

    private static void newObject() {
        RootForms x = new RootForms();
        due("trouble()", x.trouble(), 0);
        due("size(3)", x.size(3), -4);
        due("size(0)", x.size(0), 0);
        due("size(1)", x.size(1), 0);
        due("size(2)", x.size(2), 0);
        due("undo()", x.undo(), 0);
        dueForm(x, 0, 0, 0, 0);
        duePairs(x);
        refused(x, "least(0)", x.least(0), 2);
        due("classes()", x.classes(), 1);
        dueHead(x, 0, 1, 0, 1);
        accepted(x, "form(1, 0)", x.form(1, 0), 0);
    }

    private static void newBesideAnother() {
        RootForms other = furnished(-23);
        newObject();
        due("size(3) of the other one", other.size(3), -23);
        due("size(0) of the other one", other.size(0), 2);
        duePairs(other, 0, 5, 3, 4);
    }

    private static void dueRoot(int d, boolean taken) {
        RootForms x = new RootForms();
        due("root(" + d + ")", x.root(d) ? 1 : 0, taken ? 1 : 0);
        due("trouble() behind root(" + d + ")", x.trouble(), taken ? 0 : 1);
        due("size(3) behind root(" + d + ")", x.size(3), taken ? d : -4);
    }

    private static void rootRange() {
        for (int d : new int[] {-4000, -3999, 3997, 4000}) {
            dueRoot(d, true);
        }
        /* Each of these has the right rest and is no square. */
        for (int d : new int[] {-4003, -4004, 4001, 4004, -4_000_000, 4_000_001, MIN, MIN + 4, MAX - 2, MAX - 3}) {
            dueRoot(d, false);
        }
        for (int d : new int[] {-4001, -4002, 4002, 4003, MIN + 1, MAX}) {
            dueRoot(d, false);
        }
    }

    private static void rootRest() {
        for (int d : new int[] {-3, -4, -7, -8, -3996, 5, 8, 12, 13, 3993, 3996}) {
            dueRoot(d, true);
        }
        for (int d : new int[] {-1, -2, -5, -6, -3997, -3998, 2, 3, 6, 7, 3998, 3999}) {
            dueRoot(d, false);
        }
    }

    private static void rootSquare() {
        for (int side = 0; side <= 63; side++) {
            dueRoot(side * side, false);
        }
        /* What is below 0 is no square. */
        for (int side = 2; side <= 62; side += 2) {
            dueRoot(-side * side, true);
        }
        dueRoot(-3, true);
        dueRoot(5, true);
        dueRoot(3965, true);
        dueRoot(3973, true);
    }

    private static void rootEmpties() {
        for (int d : new int[] {-23, -4000, 4000}) {
            RootForms x = furnished(-23);
            due("root(" + d + ")", x.root(d) ? 1 : 0, 1);
            due("size(3)", x.size(3), d);
            due("size(0)", x.size(0), 0);
            due("size(2)", x.size(2), 0);
            due("undo()", x.undo(), 0);
            dueForm(x, 0, 0, 0, 0);
            refused(x, "least(0)", x.least(0), 2);
            duePairs(x, 0, 5, 3, 4);
            accepted(x, "form", x.form(1, d & 1), 0);
        }
        RootForms x = full();
        due("root(-23) of a full SHELF", x.root(-23) ? 1 : 0, 1);
        due("size(0)", x.size(0), 0);
        accepted(x, "form(1, 1)", x.form(1, 1), 0);
    }

    private static void rootRefused() {
        for (int d : new int[] {0, 4, 2, -1, 4001, -4003, MIN, MAX}) {
            RootForms x = furnished(-23);
            long[] before = state(x);
            due("root(" + d + ")", x.root(d) ? 1 : 0, 0);
            due("trouble() behind root(" + d + ")", x.trouble(), 1);
            holds("all stays behind root(" + d + ")", Arrays.equals(before, state(x)));
            due("classes()", x.classes(), 3);
        }
    }

    /** Lies on the SHELF of a house of D of its own, and has this c. */
    private static void formTaken(int d, int a, int b, int c) {
        RootForms x = furnished(d);
        x.root(0);
        accepted(x, "form(" + a + ", " + b + ") of D " + d, x.form(a, b), 2);
        dueForm(x, 2, a, b, c);
        due("size(0)", x.size(0), 3);
        due("size(2)", x.size(2), 4);
    }

    private static void formRefused(int d, int a, int b, int why) {
        refusedOf(d, "form(" + a + ", " + b + ")", x -> x.form(a, b), why);
    }

    private static void formOfNoA() {
        formTaken(5, 1, 1, -1);
        formTaken(5, -1, 1, 1);
        formRefused(5, 0, 1, 1);
        formRefused(-4, 0, 0, 1);
        formRefused(-4, 0, 2, 1);
        formRefused(-4, 0, MILLION + 1, 1);
    }

    private static void formA() {
        formTaken(-3999, MILLION, -1999, 1);
        formTaken(-3999, MILLION, 1999, 1);
        formTaken(3241, MILLION, 2829, 2);
        formTaken(3241, -MILLION, 2829, -2);
        /* (1000001, 2000, 1) and (-1000001, 2001, -1) would be of these D. */
        formRefused(-4, MILLION + 1, 2000, 1);
        formRefused(3997, MILLION + 1, 2001, 1);
        formRefused(3997, -MILLION - 1, 2001, 1);
        formRefused(-4, -MILLION - 1, 2000, 1);
        formRefused(-4, MAX, 0, 1);
        formRefused(-4, MIN, 0, 1);
        formRefused(5, MIN, 1, 1);
    }

    private static void formB() {
        formTaken(-4, 501_001, MILLION, 499_001);
        formTaken(-4, 501_001, -MILLION, 499_001);
        formTaken(8, 789_842, MILLION, 316_519);
        formTaken(8, -789_842, -MILLION, -316_519);
        /* (724927, 1000001, 344863) and (721498, 1000001, 346502) would be of these D. */
        formRefused(-3, 724_927, MILLION + 1, 1);
        formRefused(-3, 724_927, -MILLION - 1, 1);
        formRefused(17, 721_498, MILLION + 1, 1);
        formRefused(17, -721_498, -MILLION - 1, 1);
        formRefused(-4, 1, MAX, 1);
        formRefused(-4, 1, MIN, 1);
        formRefused(-4, MIN, MIN, 1);
    }

    private static void formC() {
        formTaken(-3999, 1, 1999, MILLION);
        formTaken(-3999, 1, -1999, MILLION);
        formTaken(3241, 2, 2829, MILLION);
        formTaken(3241, -2, 2829, -MILLION);
        /* c would be 1000001, or -1000001. */
        formRefused(-4, 1, 2000, 4);
        formRefused(-4, 1, -2000, 4);
        formRefused(3997, 1, 2001, 4);
        formRefused(3997, -1, 2001, 4);
        /* c would be beyond what an int holds: 4294967296 + 1 looks like 1 there. */
        formRefused(-4, 1, 131_072, 4);
        formRefused(-4, 1, MILLION, 4);
        formRefused(8, -1, -MILLION, 4);
    }

    private static void formDivisor() {
        formTaken(-12, 1, 2, 4);
        formRefused(-12, 2, 2, 4);
        formRefused(-12, 2, -2, 4);
        formTaken(-27, 1, 3, 9);
        formRefused(-27, 3, 3, 4);
        formTaken(-3888, 4, 0, 243);
        formRefused(-3888, 36, 36, 4);
        formTaken(20, 1, 2, -4);
        formTaken(20, -4, 2, 1);
        formRefused(20, 2, 2, 4);
        formRefused(20, -2, 2, 4);
        formTaken(45, 1, 3, -9);
        formRefused(45, 3, 3, 4);
        formRefused(45, -3, -3, 4);
    }

    private static void formSign() {
        formTaken(-4, 1, 0, 1);
        formRefused(-4, -1, 0, 4);
        formRefused(-3, -1, 1, 4);
        formRefused(-3999, -MILLION, 1999, 4);
        formTaken(5, -1, 1, 1);
        formTaken(4000, -1, 0, 1000);
    }

    private static void formNotWhole() {
        formRefused(-4, 3, 1, 4);
        formRefused(-4, 1, 1, 4);
        formRefused(-4, 3, 2, 4);
        formTaken(-4, 2, 2, 1);
        formRefused(-23, 1, 0, 4);
        formRefused(-23, 5, 1, 4);
        formTaken(-23, 6, 1, 1);
        formRefused(5, 1, 2, 4);
        formRefused(5, MILLION, MILLION, 4);
        formRefused(5, -MILLION, -MILLION, 4);
    }

    private static void formRoom() {
        RootForms x = of(-23);
        for (int i = 0; i < 40; i++) {
            due("size(0)", x.size(0), i);
            accepted(x, "form(1, " + (2 * i + 1) + ")", x.form(1, 2 * i + 1), i);
        }
        due("size(0)", x.size(0), 40);
        due("size(2)", x.size(2), 40);
        refusedAndStays(x, "form(1, 1) on a full SHELF", y -> y.form(1, 1), 3);
        x = full();
        refused(x, "form(1, 1) on a full SHELF", x.form(1, 1), 3);
        dueForm(x, 0, 1, 1, 6);
        dueForm(x, 39, 1, 79, 1566);
        dueForm(x, 40, 0, 0, 0);
        due("undo()", x.undo(), 1);
        accepted(x, "form(2, 1)", x.form(2, 1), 39);
        dueForm(x, 39, 2, 1, 3);
        refused(x, "form(2, 1)", x.form(2, 1), 3);
    }

    private static void formOrder() {
        RootForms x = full();
        refused(x, "form(0, 1): 1 ahead of 3", x.form(0, 1), 1);
        refused(x, "form(1000001, 1): 1 ahead of 4 and 3", x.form(MILLION + 1, 1), 1);
        refused(x, "form(1, -1000001): 1 ahead of 4 and 3", x.form(1, -MILLION - 1), 1);
        refused(x, "form(5, 1): 4 ahead of 3", x.form(5, 1), 4);
        refused(x, "form(-1, 1): 4 ahead of 3", x.form(-1, 1), 4);
        refused(x, "form(1, 2001): 4 ahead of 3", x.form(1, 2001), 4);
        refused(x, "form(1, 1): 3", x.form(1, 1), 3);
        due("size(0)", x.size(0), 40);
        due("size(2)", x.size(2), 40);
        formRefused(-4, -MILLION - 1, 1, 1);
        formRefused(-4, 0, MIN, 1);
    }

    private static void formTwice() {
        RootForms x = of(-4);
        accepted(x, "form(5, 4)", x.form(5, 4), 0);
        accepted(x, "form(5, 4)", x.form(5, 4), 1);
        x.reduce(1);
        dueForm(x, 0, 5, 4, 1);
        dueForm(x, 1, 1, 0, 1);
    }

    private static void numberPlace() {
        RootForms x = furnished(-4);
        x.root(0);
        dueForm(x, 0, 1, 0, 1);
        dueForm(x, 1, 2, 2, 1);
        for (int place : NO_PLACES) {
            dueForm(x, place, 0, 0, 0);
        }
        due("trouble() of root", x.trouble(), 1);
        x.undo();
        x.undo();
        dueForm(x, 0, 1, 0, 1);
        dueForm(x, 1, 0, 0, 0);
        x = full();
        dueForm(x, 39, 1, 79, 1566);
        dueForm(x, 40, 0, 0, 0);
    }

    private static void numberWhat() {
        RootForms x = of(-23);
        x.form(6, 5);
        x.root(0);
        due("number(0, -1)", x.number(0, -1), 0);
        due("number(0, 0)", x.number(0, 0), 6);
        due("number(0, 2)", x.number(0, 2), 2);
        due("number(0, 3)", x.number(0, 3), 0);
        due("number(0, MIN)", x.number(0, MIN), 0);
        due("number(0, MAX)", x.number(0, MAX), 0);
        due("trouble() of root", x.trouble(), 1);
    }

    private static void leastBelowB() {
        dueLeast(-23, 2, -1, 1);
        dueLeast(-23, 2, 1, 1);
        dueLeast(-7, 1, 1, 1);
        dueLeast(-7, 1, -1, 0);
        dueLeast(-20, 2, 2, 1);
        dueLeast(-20, 2, -2, 0);
        dueLeast(-4, 1, 2, 0);
        dueLeast(-4, 1, -2, 0);
        dueLeast(-3, 1, 3, 0);
        dueLeast(-3, 1, -3, 0);
    }

    private static void leastBelowC() {
        dueLeast(-23, 2, -1, 1);
        dueLeast(-23, 3, -1, 0);
        dueLeast(-23, 3, 1, 0);
        dueLeast(-8, 1, 0, 1);
        dueLeast(-8, 2, 0, 0);
        dueLeast(-15, 2, 1, 1);
        dueLeast(-15, 2, -1, 0);
        dueLeast(-4, 1, 0, 1);
        dueLeast(-3, 1, 1, 1);
        dueLeast(-3, 1, -1, 0);
    }

    private static void leastAboveZero() {
        dueLeast(5, 1, 1, 1);
        dueLeast(5, 1, -1, 0);
        dueLeast(5, -1, -1, 0);
        dueLeast(8, 1, 2, 1);
        dueLeast(8, 1, 0, 0);
        dueLeast(8, -1, 0, 0);
        dueLeast(8, -2, 0, 0);
    }

    private static void leastAboveR() {
        /* R is 2, 2, 3, 3, and 63. */
        dueLeast(5, 1, 1, 1);
        dueLeast(5, 1, 3, 0);
        dueLeast(8, -1, 2, 1);
        dueLeast(8, -2, 4, 0);
        dueLeast(13, 1, 3, 1);
        dueLeast(13, 3, 5, 0);
        dueLeast(12, 1, 2, 1);
        dueLeast(12, 1, 4, 0);
        dueLeast(4000, 1, 62, 1);
        dueLeast(4000, 1, 64, 0);
        dueLeast(3997, 1, 63, 1);
        dueLeast(3997, 1, 65, 0);
        dueLeast(3973, -1, 63, 1);
    }

    private static void leastAboveLow() {
        /* 2 |a| is R - b, R - b + 1 and R - b + 2, on both sides of 0. */
        dueLeast(13, 1, 1, 0);
        dueLeast(13, -1, 1, 0);
        dueLeast(17, 1, 1, 0);
        dueLeast(5, 1, 1, 1);
        dueLeast(5, -1, 1, 1);
        dueLeast(8, 1, 2, 1);
        dueLeast(8, -1, 2, 1);
    }

    private static void leastAboveHigh() {
        /* No FORM has R + b or R + b + 1: these have R + b - 1 and R + b + 2. */
        dueLeast(5, 1, 1, 1);
        dueLeast(5, -1, 1, 1);
        dueLeast(12, 2, 2, 1);
        dueLeast(13, 3, 1, 0);
        dueLeast(13, -3, 1, 0);
    }

    private static void leastRefused() {
        for (int place : NO_PLACES) {
            refusedOf(-4, "least(" + place + ")", x -> x.least(place), 2);
        }
        RootForms x = new RootForms();
        refused(x, "least(0) of an empty SHELF", x.least(0), 2);
        x = full();
        accepted(x, "least(39) of a full SHELF", x.least(39), 0);
        refused(x, "least(40) of a full SHELF", x.least(40), 2);
    }

    /** A STEP of the FORM (a, b) of D makes this one, by (0, -1, 1, t). */
    private static void dueStep(int d, int[] from, int[] to, int t) {
        RootForms x = of(d);
        String call = "step of (" + from[0] + ", " + from[1] + ") of D " + d;
        due("form ahead of " + call, x.form(from[0], from[1]), 0);
        x.root(0);
        accepted(x, call, x.step(0), 1);
        dueForm(x, 0, to[0], to[1], to[2]);
        dueWay(x, 0, -1, 1, t);
    }

    private static void stepBelow() {
        dueStep(-3, new int[] {1, 1}, new int[] {1, 1, 1}, 1);
        dueStep(-3, new int[] {1, 3}, new int[] {3, 3, 1}, 1);
        dueStep(-3, new int[] {1, -3}, new int[] {3, 3, 1}, 0);
        dueStep(-3, new int[] {3, -3}, new int[] {1, 1, 1}, -1);
        dueStep(-4, new int[] {1, 4}, new int[] {5, -4, 1}, 0);
        dueStep(-4, new int[] {1, -4}, new int[] {5, 4, 1}, 0);
        dueStep(-4, new int[] {1, 2}, new int[] {2, 2, 1}, 1);
        dueStep(-4, new int[] {1, 0}, new int[] {1, 0, 1}, 0);
    }

    private static void stepGreatC() {
        dueStep(5, new int[] {1, 5}, new int[] {5, 5, 1}, 1);
        dueStep(5, new int[] {1, -5}, new int[] {5, 5, 1}, 0);
        dueStep(5, new int[] {-1, -5}, new int[] {-5, 5, -1}, 0);
        dueStep(5, new int[] {-1, 5}, new int[] {-5, 5, -1}, -1);
        dueStep(8, new int[] {1, 6}, new int[] {7, -6, 1}, 0);
        dueStep(8, new int[] {-17, -22}, new int[] {-7, -6, -1}, 2);
        dueStep(13, new int[] {1, 7}, new int[] {9, -7, 1}, 0);
    }

    private static void stepSmallC() {
        /* r is R: from b at -R, and at R - 2 |c|, which is left out itself. */
        dueStep(8, new int[] {1, -2}, new int[] {-1, 2, 1}, 0);
        dueStep(8, new int[] {-1, -2}, new int[] {1, 2, -1}, 0);
        dueStep(8, new int[] {-2, 0}, new int[] {1, 2, -1}, 1);
        dueStep(8, new int[] {2, 0}, new int[] {-1, 2, 1}, -1);
        /* r is R - 2 |c| + 1, which is R - 1 where c is 1 or -1. */
        dueStep(5, new int[] {-1, -1}, new int[] {1, 1, -1}, 0);
        dueStep(5, new int[] {1, -1}, new int[] {-1, 1, 1}, 0);
        dueStep(5, new int[] {-29, -11}, new int[] {-1, 1, 1}, 5);
        dueStep(12, new int[] {1, 2}, new int[] {-2, 2, 1}, -1);
    }

    private static void stepAroundR() {
        dueStep(8, new int[] {-1, 0}, new int[] {2, 0, -1}, 0);
        dueStep(8, new int[] {1, 0}, new int[] {-2, 0, 1}, 0);
        dueStep(17, new int[] {1, 1}, new int[] {-4, -1, 1}, 0);
        dueStep(20, new int[] {-1, 0}, new int[] {5, 0, -1}, 0);
        dueStep(21, new int[] {-1, -1}, new int[] {5, 1, -1}, 0);
        dueStep(21, new int[] {-1, 1}, new int[] {5, -1, -1}, 0);
        dueStep(4000, new int[] {1, 62}, new int[] {-39, 16, 24}, -1);
    }

    private static void stepGreatest() {
        dueStep(-3999, new int[] {1, 1999}, new int[] {MILLION, -1999, 1}, 0);
        dueStep(-3999, new int[] {MILLION, 1999}, new int[] {1, 1, 1000}, 1000);
        dueStep(-3999, new int[] {MILLION, -1999}, new int[] {1, 1, 1000}, -999);
        dueStep(-4, new int[] {501_001, MILLION}, new int[] {499_001, -1998, 2}, 1);
        dueStep(-4, new int[] {501_001, -MILLION}, new int[] {499_001, 1998, 2}, -1);
        dueStep(3241, new int[] {-2, 2829}, new int[] {-MILLION, -2829, -2}, 0);
        dueStep(3241, new int[] {-MILLION, 2829}, new int[] {-2, 55, 27}, -721);
    }

    private static void stepRefused() {
        for (int place : NO_PLACES) {
            refusedOf(-4, "step(" + place + ")", x -> x.step(place), 2);
            refusedOf(5, "step(" + place + ")", x -> x.step(place), 2);
        }
        RootForms x = new RootForms();
        refusedAndStays(x, "step(0) of an empty SHELF", y -> y.step(0), 2);
        x = full();
        refused(x, "step(40) of a full SHELF", x.step(40), 2);
        accepted(x, "step(39) of a full SHELF", x.step(39), 1);
        dueForm(x, 39, 1566, -79, 1);
    }

    private static void reduceNone() {
        RootForms x = of(-4);
        x.form(5, 4);
        x.form(1, 0);
        accepted(x, "reduce(0)", x.reduce(0), 1);
        dueWay(x, 0, -1, 1, 2);
        accepted(x, "reduce(1)", x.reduce(1), 0);
        dueForm(x, 1, 1, 0, 1);
        dueWay(x, 1, 0, 0, 1);
        due("size(2)", x.size(2), 4);
        due("undo()", x.undo(), 1);
        due("size(2)", x.size(2), 3);
        dueForm(x, 0, 1, 0, 1);
        x = of(13);
        x.form(1, 3);
        accepted(x, "reduce(0)", x.reduce(0), 0);
        dueForm(x, 0, 1, 3, -1);
    }

    private static void reduceGreatest() {
        RootForms x = of(-4);
        x.form(501_001, MILLION);
        accepted(x, "reduce(0)", x.reduce(0), 3);
        dueForm(x, 0, 1, 0, 1);
        dueWay(x, 499, 500, -500, -501);
        x.form(501_001, MILLION);
        accepted(x, "check of its way", x.check(1, 0, 499, 500, -500, -501), 1);
        x = of(3241);
        x.form(-MILLION, 2829);
        accepted(x, "reduce(0)", x.reduce(0), 1);
        dueForm(x, 0, -2, 55, 27);
        dueWay(x, 0, -1, 1, -721);
    }

    private static void reduceRefused() {
        for (int place : NO_PLACES) {
            refusedOf(-4, "reduce(" + place + ")", x -> x.reduce(place), 2);
            refusedOf(5, "reduce(" + place + ")", x -> x.reduce(place), 2);
        }
        RootForms x = new RootForms();
        refusedAndStays(x, "reduce(0) of an empty SHELF", y -> y.reduce(0), 2);
        x = full();
        refused(x, "reduce(40) of a full SHELF", x.reduce(40), 2);
        accepted(x, "reduce(39) of a full SHELF", x.reduce(39), 2);
        dueForm(x, 39, 1, 1, 6);
    }

    private static void wayOfNone() {
        RootForms x = new RootForms();
        dueWay(x, 1, 0, 0, 1);
        x.form(5, 4);
        x.step(1);
        x.reduce(-1);
        dueWay(x, 1, 0, 0, 1);
    }

    private static void wayOthers() {
        RootForms x = furnished(-4);
        x.root(0);
        for (int k : new int[] {-1, 4, MIN, MAX}) {
            due("way(" + k + ")", x.way(k), 0);
        }
        dueWay(x, 0, -1, 1, 1);
        due("trouble() of root", x.trouble(), 1);
    }

    private static void wayLatest() {
        RootForms x = of(-4);
        x.form(5, 4);
        x.form(13, 10);
        x.step(0);
        dueWay(x, 0, -1, 1, 2);
        x.step(2);
        x.reduce(2);
        x.undo();
        dueWay(x, 0, -1, 1, 2);
        x.reduce(1);
        dueWay(x, -1, -1, 3, 2);
        x.root(4);
        x.root(5);
        dueWay(x, -1, -1, 3, 2);
    }
}
