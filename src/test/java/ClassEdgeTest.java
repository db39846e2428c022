import java.util.Arrays;

/** The boundary cases of rings, ways and classes (promises 9 to 20, 'Terms' III), each with a test of its own. */
public final class ClassEdgeTest extends Checks {

    public static void main(String[] args) {
        edge("promise 9: the RING of few and of most", ClassEdgeTest::ringLengths);
        edge("promise 9: from the FORM in a place (which stays)", ClassEdgeTest::ringStays);
        edge("promise 9: NONE: 2", ClassEdgeTest::ringNoPlace);
        edge("promise 9: 2, else 5", ClassEdgeTest::ringOrder);
        edge("promise 10: FORMS at the bound", ClassEdgeTest::classOfGreatest);
        edge("promise 10: NONE (2)", ClassEdgeTest::classOfRefused);
        edge("promise 11: NONE: 2", ClassEdgeTest::checkNoPlace);
        edge("promise 11: 1 (one beyond 1,000,000 in size)", ClassEdgeTest::checkBeyond);
        edge("promise 11: 1,000,000 is not beyond", ClassEdgeTest::checkBound);
        edge("promise 11: 7, p s - q r is 1", ClassEdgeTest::checkWorth);
        edge("promise 11: 2; 1; 7", ClassEdgeTest::checkOrder);
        edge("promise 11: 1, 0", ClassEdgeTest::checkAnswers);
        classes();
        end();
    }

    private static void classes() {
        edge("promise 12: one CLASS, and most", ClassEdgeTest::classCounts);
        edge("promise 13: 0 if there is no such CLASS", ClassEdgeTest::headNone);
        edge("promise 13: what 0 a, 1 b, 2 c, 0 for others", ClassEdgeTest::headWhat);
        edge("III: HEADS by a, then b", ClassEdgeTest::headOrder);
        edge("promise 14: ONE", ClassEdgeTest::one);
        edge("promise 15: NONE (2)", ClassEdgeTest::joinRefused);
        edge("promise 15: with ONE, and with BACK", ClassEdgeTest::joinOne);
        edge("promise 16: NONE (2)", ClassEdgeTest::backRefused);
        edge("III: BACK of a CLASS that is its own", ClassEdgeTest::backOwn);
        edge("promise 17: NONE (2)", ClassEdgeTest::orderRefused);
        edge("III: ORDER 1 of ONE", ClassEdgeTest::orderOne);
        edge("III: GROUP: none if there is ONE alone", ClassEdgeTest::groupNone);
        edge("promise 18: NONE (2)", ClassEdgeTest::groupRefused);
        edge("promise 19: NONE (2)", ClassEdgeTest::genusRefused);
        edge("III: GENUS numbered as they come by CLASSES", ClassEdgeTest::genusNumbers);
        edge("promise 20: one GENUS, and as many as CLASSES", ClassEdgeTest::generaCounts);
        edge("promises 12 to 20: of another D", ClassEdgeTest::anotherDiscriminant);
    }

    private static void dueRing(int d, int a, int b, int want) {
        RootForms x = of(d);
        due("form(" + a + ", " + b + ") of " + d, x.form(a, b), 0);
        x.root(0);
        accepted(x, "ring of (" + a + ", " + b + ") of " + d, x.ring(0), want);
    }

    private static void ringLengths() {
        dueRing(5, 1, 1, 2);
        dueRing(5, -1, 1, 2);
        dueRing(5, 1, 5, 2);
        dueRing(8, 1, 0, 2);
        dueRing(3529, 1, 1, 198);
        dueRing(3241, -1_000_000, 2829, 90);
    }

    private static void ringStays() {
        RootForms x = furnished(5);
        x.form(1, 5);
        long[] before = state(x);
        accepted(x, "ring(2)", x.ring(2), 2);
        holds("all stays", Arrays.equals(before, state(x)));
        dueForm(x, 2, 1, 5, 5);
    }

    private static void ringNoPlace() {
        for (int place : NO_PLACES) {
            refusedOf(5, "ring(" + place + ")", x -> x.ring(place), 2);
        }
        refusedAndStays(of(5), "ring(0) of an empty SHELF", x -> x.ring(0), 2);
        RootForms x = of(5);
        for (int i = 0; i < 40; i++) {
            x.form(1, 2 * i + 1);
        }
        accepted(x, "ring(39) of a full SHELF", x.ring(39), 2);
        refused(x, "ring(40) of a full SHELF", x.ring(40), 2);
    }

    private static void ringOrder() {
        for (int place : NO_PLACES) {
            refusedOf(-4, "ring(" + place + ")", x -> x.ring(place), 2);
        }
        refusedAndStays(of(-4), "ring(0) of an empty SHELF", x -> x.ring(0), 2);
        refusedOf(-4, "ring(0)", x -> x.ring(0), 5);
        refusedOf(-3, "ring(1)", x -> x.ring(1), 5);
        refusedOf(-4000, "ring(0)", x -> x.ring(0), 5);
    }

    private static void classOfGreatest() {
        RootForms x = of(-3999);
        x.form(1, 1999);
        x.form(1_000_000, 1999);
        accepted(x, "classOf(0)", x.classOf(0), 0);
        accepted(x, "classOf(1)", x.classOf(1), 0);
        dueForm(x, 1, 1_000_000, 1999, 1);
        x = of(-3911);
        due("form(33, 29)", x.form(33, 29), 0);
        accepted(x, "classOf(0)", x.classOf(0), 82);
        x = of(12);
        x.form(1, 2);
        x.form(-1, 2);
        accepted(x, "classOf(0)", x.classOf(0), 0);
        accepted(x, "classOf(1)", x.classOf(1), 1);
    }

    private static void classOfRefused() {
        for (int place : NO_PLACES) {
            refusedOf(-4, "classOf(" + place + ")", x -> x.classOf(place), 2);
            refusedOf(5, "classOf(" + place + ")", x -> x.classOf(place), 2);
        }
        refusedAndStays(of(-4), "classOf(0) of an empty SHELF", x -> x.classOf(0), 2);
        RootForms x = full();
        accepted(x, "classOf(39) of a full SHELF", x.classOf(39), 0);
        refused(x, "classOf(40) of a full SHELF", x.classOf(40), 2);
    }

    private static void checkNoPlace() {
        for (int place : NO_PLACES) {
            refusedOf(-4, "check(" + place + ", 0, 1, 0, 0, 1)", x -> x.check(place, 0, 1, 0, 0, 1), 2);
            refusedOf(-4, "check(0, " + place + ", 1, 0, 0, 1)", x -> x.check(0, place, 1, 0, 0, 1), 2);
            refusedOf(5, "check(" + place + ", " + place + ")", x -> x.check(place, place, 1, 0, 0, 1), 2);
        }
        refusedAndStays(of(-4), "check(0, 0, 1, 0, 0, 1) of an empty SHELF", x -> x.check(0, 0, 1, 0, 0, 1), 2);
        RootForms x = full();
        accepted(x, "check(39, 39, 1, 0, 0, 1) of a full SHELF", x.check(39, 39, 1, 0, 0, 1), 1);
        refused(x, "check(40, 39, 1, 0, 0, 1) of a full SHELF", x.check(40, 39, 1, 0, 0, 1), 2);
        refused(x, "check(39, 40, 1, 0, 0, 1) of a full SHELF", x.check(39, 40, 1, 0, 0, 1), 2);
    }

    private static void checkBeyond() {
        for (int n : new int[] {MILLION + 1, -MILLION - 1, MAX, MIN, MIN + 1}) {
            refusedOf(-4, "check with p " + n, x -> x.check(0, 0, n, -1, 1, 0), 1);
            refusedOf(-4, "check with q " + n, x -> x.check(0, 0, 1, n, 0, 1), 1);
            refusedOf(-4, "check with r " + n, x -> x.check(0, 0, 1, 0, n, 1), 1);
            refusedOf(-4, "check with s " + n, x -> x.check(0, 0, 0, -1, 1, n), 1);
        }
    }

    private static void checkBound() {
        for (int n : new int[] {MILLION, -MILLION}) {
            acceptedOf(-4, "check with p " + n, x -> x.check(0, 0, n, -1, 1, 0), 0);
            acceptedOf(-4, "check with q " + n, x -> x.check(0, 0, 1, n, 0, 1), 0);
            acceptedOf(-4, "check with r " + n, x -> x.check(0, 0, 1, 0, n, 1), 0);
            acceptedOf(-4, "check with s " + n, x -> x.check(0, 0, 0, -1, 1, n), 0);
        }
        /* The greatest FORM and SUBSTITUTION: no sum may run over and come near by chance. */
        RootForms x = of(-4);
        x.form(501_001, MILLION);
        accepted(x, "check with great numbers", x.check(0, 0, 999_999, MILLION, 999_998, 999_999), 0);
        refused(x, "check with great numbers", x.check(0, 0, MILLION, MILLION, MILLION, MILLION), 7);
        refused(x, "check with great numbers", x.check(0, 0, MILLION, MILLION, -MILLION, MILLION), 7);
        accepted(x, "check with great numbers", x.check(0, 0, MILLION, 999_999, 1, 1), 0);
    }

    private static void checkWorth() {
        acceptedOf(-4, "check with a worth of 1", x -> x.check(0, 0, 1, 0, 0, 1), 1);
        acceptedOf(-4, "check with a worth of 1", x -> x.check(0, 0, -1, 0, 0, -1), 1);
        refusedOf(-4, "check with a worth of 0", x -> x.check(0, 0, 1, 1, 1, 1), 7);
        refusedOf(-4, "check with a worth of 0", x -> x.check(0, 0, 0, 0, 0, 0), 7);
        refusedOf(-4, "check with a worth of 2", x -> x.check(0, 0, 2, 0, 0, 1), 7);
        refusedOf(-4, "check with a worth of 2", x -> x.check(0, 0, 1, -1, 1, 1), 7);
        /* A worth of -1, though it would make a FORM of itself. */
        refusedOf(-4, "check with a worth of -1", x -> x.check(0, 0, 0, 1, 1, 0), 7);
        refusedOf(-4, "check with a worth of -1", x -> x.check(0, 0, 1, 0, 0, -1), 7);
        /* 4294967296 + 1 looks like 1 in an int. */
        refusedOf(-4, "check with a worth beyond int", x -> x.check(0, 0, 65_536, -1, 1, 65_536), 7);
    }

    private static void checkOrder() {
        refusedOf(-4, "check: 2 ahead of 1 and 7", x -> x.check(2, 0, MILLION + 1, 0, 0, 2), 2);
        refusedOf(-4, "check: 2 ahead of 1 and 7", x -> x.check(0, 2, MILLION + 1, 0, 0, 2), 2);
        refusedOf(-4, "check: 2 ahead of 1", x -> x.check(0, -1, 1, MIN, 0, 1), 2);
        refusedOf(-4, "check: 2 ahead of 7", x -> x.check(-1, 0, 1, 1, 1, 1), 2);
        refusedOf(-4, "check: 2 ahead of 7", x -> x.check(0, 2, 0, 0, 0, 0), 2);
        refusedOf(-4, "check: 1 ahead of 7", x -> x.check(0, 0, MILLION + 1, 0, 0, 1), 1);
        refusedOf(-4, "check: 1 ahead of 7", x -> x.check(0, 0, 0, 0, 0, -MILLION - 1), 1);
    }

    private static void checkAnswers() {
        RootForms x = furnished(-4);
        long[] before = state(x);
        /* (1, 0, 1) and (2, 2, 1). */
        accepted(x, "check(0, 1, 1, 0, 1, 1)", x.check(0, 1, 1, 0, 1, 1), 1);
        accepted(x, "check(1, 0, 1, 0, -1, 1)", x.check(1, 0, 1, 0, -1, 1), 1);
        accepted(x, "check(1, 0, 1, 0, 1, 1)", x.check(1, 0, 1, 0, 1, 1), 0);
        accepted(x, "check(0, 1, 1, 0, 0, 1)", x.check(0, 1, 1, 0, 0, 1), 0);
        /* a and c as they should be, b of the other sign. */
        accepted(x, "check(0, 1, 1, 0, -1, 1)", x.check(0, 1, 1, 0, -1, 1), 0);
        holds("all stays", Arrays.equals(before, state(x)));
    }

    private static void classCounts() {
        int[][] known = {{-3, 1}, {-4, 1}, {-163, 1}, {-3911, 83}, {-4000, 20}, {-3999, 48}, {5, 1}, {4000, 4},
            {3997, 10}};
        for (int[] row : known) {
            RootForms x = of(row[0]);
            x.root(0);
            due("classes() of " + row[0], x.classes(), row[1]);
            due("trouble() of root", x.trouble(), 1);
            due("a of the last HEAD of " + row[0] + " is there", x.head(row[1] - 1, 0) > 0 ? 1 : 0, 1);
            due("a of one behind it", x.head(row[1], 0), 0);
        }
    }

    private static void headNone() {
        RootForms x = of(-23);
        x.root(0);
        dueHead(x, 2, 2, 1, 3);
        for (int i : new int[] {-1, 3, 83, 128, MIN, MAX}) {
            dueHead(x, i, 0, 0, 0);
        }
        due("trouble() of root", x.trouble(), 1);
        x = of(-3911);
        dueHead(x, 82, 33, 29, 36);
        dueHead(x, 83, 0, 0, 0);
        x = of(12);
        dueHead(x, 1, 2, 2, -1);
        dueHead(x, 2, 0, 0, 0);
    }

    private static void headWhat() {
        RootForms x = of(-23);
        x.root(0);
        due("head(2, -1)", x.head(2, -1), 0);
        due("head(2, 0)", x.head(2, 0), 2);
        due("head(2, 2)", x.head(2, 2), 3);
        due("head(2, 3)", x.head(2, 3), 0);
        due("head(2, MIN)", x.head(2, MIN), 0);
        due("head(2, MAX)", x.head(2, MAX), 0);
        due("trouble() of root", x.trouble(), 1);
    }

    private static void headOrder() {
        RootForms x = of(-56);
        dueHead(x, 1, 2, 0, 7);
        dueHead(x, 2, 3, -2, 5);
        dueHead(x, 3, 3, 2, 5);
        x = of(229);
        dueHead(x, 1, 3, 11, -9);
        dueHead(x, 2, 3, 13, -5);
        /* |b| is a, or a is c: the one with b above 0 stands for both. */
        x = of(-20);
        due("classes()", x.classes(), 2);
        dueHead(x, 1, 2, 2, 3);
        x = of(-15);
        due("classes()", x.classes(), 2);
        dueHead(x, 1, 2, 1, 2);
    }

    private static void one() {
        for (int d : new int[] {-3, -4, -3999, -4000, -3911, 5, 8, 12, 3997, 4000}) {
            RootForms x = of(d);
            x.form(1, d & 1);
            accepted(x, "classOf(0) of D " + d, x.classOf(0), x.one());
            x.root(0);
            due("one() of D " + d, x.one(), 0);
            due("trouble() of root", x.trouble(), 1);
            due("a of its HEAD", x.head(x.one(), 0), 1);
        }
    }

    private static void joinRefused() {
        for (int i : new int[] {-1, 3, 83, 128, MIN, MAX}) {
            refusedOf(-23, "join(" + i + ", 0)", x -> x.join(i, 0), 2);
            refusedOf(-23, "join(0, " + i + ")", x -> x.join(0, i), 2);
            refusedOf(-23, "join(" + i + ", " + i + ")", x -> x.join(i, i), 2);
        }
        acceptedOf(-23, "join(2, 2)", x -> x.join(2, 2), 1);
        acceptedOf(-3911, "join(0, 82)", x -> x.join(0, 82), 82);
        refusedOf(-3911, "join(0, 83)", x -> x.join(0, 83), 2);
        refusedOf(-3911, "join(83, 0)", x -> x.join(83, 0), 2);
        acceptedOf(-4, "join(0, 0)", x -> x.join(0, 0), 0);
        refusedOf(-4, "join(1, 0)", x -> x.join(1, 0), 2);
        acceptedOf(12, "join(1, 1)", x -> x.join(1, 1), 0);
        refusedOf(12, "join(1, 2)", x -> x.join(1, 2), 2);
    }

    private static void joinOne() {
        for (int d : new int[] {-23, -84, -4000, 60, 145, 229}) {
            RootForms x = of(d);
            for (int i = 0; i < x.classes(); i++) {
                accepted(x, "join(one, " + i + ") of D " + d, x.join(x.one(), i), i);
                accepted(x, "join(" + i + ", one) of D " + d, x.join(i, x.one()), i);
                accepted(x, "join(" + i + ", back) of D " + d, x.join(i, x.back(i)), x.one());
            }
        }
    }

    private static void backRefused() {
        for (int i : new int[] {-1, 3, 83, 128, MIN, MAX}) {
            refusedOf(-23, "back(" + i + ")", x -> x.back(i), 2);
        }
        acceptedOf(-23, "back(2)", x -> x.back(2), 1);
        acceptedOf(-3911, "back(82)", x -> x.back(82), 81);
        refusedOf(-3911, "back(83)", x -> x.back(83), 2);
        refusedOf(5, "back(1)", x -> x.back(1), 2);
    }

    private static void backOwn() {
        acceptedOf(-4, "back(0)", x -> x.back(0), 0);
        acceptedOf(-20, "back(1)", x -> x.back(1), 1);
        acceptedOf(-15, "back(1)", x -> x.back(1), 1);
        acceptedOf(-56, "back(1)", x -> x.back(1), 1);
        acceptedOf(12, "back(1)", x -> x.back(1), 1);
        acceptedOf(229, "back(1)", x -> x.back(1), 2);
    }

    private static void orderRefused() {
        for (int i : new int[] {-1, 3, 83, 128, MIN, MAX}) {
            refusedOf(-23, "order(" + i + ")", x -> x.order(i), 2);
        }
        acceptedOf(-23, "order(2)", x -> x.order(2), 3);
        acceptedOf(-3911, "order(82)", x -> x.order(82), 83);
        refusedOf(-3911, "order(83)", x -> x.order(83), 2);
        refusedOf(5, "order(1)", x -> x.order(1), 2);
    }

    private static void orderOne() {
        for (int d : new int[] {-3, -4, -23, -3911, -4000, 5, 12, 4000}) {
            acceptedOf(d, "order(one)", x -> x.order(x.one()), 1);
        }
        acceptedOf(-20, "order(1)", x -> x.order(1), 2);
    }

    private static void groupNone() {
        for (int d : new int[] {-3, -4, -163, 5, 61, 2521}) {
            refusedOf(d, "group(0)", x -> x.group(0), 2);
        }
    }

    private static void dueGroup(int d, int... rings) {
        for (int k = 0; k < rings.length; k++) {
            int place = k;
            acceptedOf(d, "group(" + k + ")", x -> x.group(place), rings[k]);
        }
        for (int k : new int[] {-1, rings.length, 16, MIN, MAX}) {
            refusedOf(d, "group(" + k + ")", x -> x.group(k), 2);
        }
    }

    private static void groupRefused() {
        dueGroup(-4);
        dueGroup(-20, 2);
        dueGroup(-3911, 83);
        dueGroup(-3299, 9, 3);
        dueGroup(-3896, 12, 3);
        dueGroup(-1155, 2, 2, 2);
        dueGroup(-3360, 2, 2, 2, 2);
        dueGroup(12, 2);
        dueGroup(60, 2, 2);
    }

    private static void genusRefused() {
        for (int i : new int[] {-1, 4, 83, 128, MIN, MAX}) {
            refusedOf(-56, "genus(" + i + ")", x -> x.genus(i), 2);
        }
        acceptedOf(-56, "genus(3)", x -> x.genus(3), 1);
        acceptedOf(-3911, "genus(82)", x -> x.genus(82), 0);
        refusedOf(-3911, "genus(83)", x -> x.genus(83), 2);
        refusedOf(5, "genus(1)", x -> x.genus(1), 2);
    }

    private static void genusNumbers() {
        for (int d : new int[] {-3, -84, -3360, -4000, 60, 145}) {
            RootForms x = of(d);
            int next = 0;
            for (int i = 0; i < x.classes(); i++) {
                int genus = x.genus(i);
                due("genus(" + i + ") of D " + d + " is there or the next one", genus <= next ? 1 : 0, 1);
                next = Math.max(next, genus + 1);
            }
            due("genera() of D " + d, x.genera(), next);
            due("genus(one) of D " + d, x.genus(x.one()), 0);
        }
    }

    private static void generaCounts() {
        int[][] known = {{-3, 1}, {-4, 1}, {-3911, 1}, {5, 1}, {-84, 4}, {-3360, 16}, {60, 4}, {12, 2}};
        for (int[] row : known) {
            RootForms x = of(row[0]);
            x.root(0);
            due("genera() of " + row[0], x.genera(), row[1]);
            due("trouble() of root", x.trouble(), 1);
        }
    }

    private static void anotherDiscriminant() {
        RootForms x = of(-3911);
        accepted(x, "order(82)", x.order(82), 83);
        x.root(-84);
        refused(x, "order(82)", x.order(82), 2);
        refused(x, "order(4)", x.order(4), 2);
        accepted(x, "genus(3)", x.genus(3), 3);
        accepted(x, "group(1)", x.group(1), 2);
        x.root(-4);
        refused(x, "group(0)", x.group(0), 2);
        refused(x, "genus(1)", x.genus(1), 2);
        refused(x, "join(1, 0)", x.join(1, 0), 2);
        due("genera()", x.genera(), 1);
        dueHead(x, 1, 0, 0, 0);
        /* What is refused leaves the CLASSES of the D that is. */
        x.root(-4003);
        due("classes()", x.classes(), 1);
        x.root(-23);
        accepted(x, "group(0)", x.group(0), 3);
    }
}
