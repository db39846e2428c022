import java.util.ArrayList;
import java.util.List;

/** The boundary cases of acts, sizes, trouble and the number of calls (promises 29 to 31), each with a test. */
public final class ActEdgeTest extends Checks {

    public static void main(String[] args) {
        edge("promise 29: 0 if there is none", ActEdgeTest::undoNone);
        edge("promise 29: acts: form, step, reduce", ActEdgeTest::undoEachAct);
        edge("promise 29: what is no act", ActEdgeTest::undoNoActs);
        edge("promise 29: what is refused is no act", ActEdgeTest::undoRefused);
        edge("I: the latest 60 acts, sixty", () -> undoMany(60));
        edge("I: the latest 60 acts, sixty-one", () -> undoMany(61));
        edge("I: the latest 60 acts, more than twice sixty", () -> undoMany(133));
        edge("promise 29: that isn't taken back (of sixty)", ActEdgeTest::undoAndOn);
        edge("promise 29: a full SHELF", ActEdgeTest::undoFull);
        edge("promise 29: FORMS whose acts are forgotten", ActEdgeTest::undoForgotten);
        edge("promise 29: WAY and OUT stay", ActEdgeTest::undoStays);
        edge("promise 30: 0 .. 3", ActEdgeTest::sizes);
        edge("promise 30: Integer.MIN_VALUE for others", ActEdgeTest::sizeOthers);
        edge("promise 31: 0 .. 7", ActEdgeTest::troubles);
        edge("promise 31: of the latest call that may be refused", ActEdgeTest::troubleStays);
        edge("promise 31: 0 it wasn't", ActEdgeTest::troubleEnds);
        edge("what it is: at most 512 calls, STEPS", ActEdgeTest::manySteps);
        edge("what it is: at most 512 calls, on a full SHELF", ActEdgeTest::manyForms);
        edge("what it is: at most 512 calls, laid and taken back", ActEdgeTest::manyUndos);
        edge("what it is: at most 512 calls, other D", ActEdgeTest::manyRoots);
        end();
    }

    private static void undoNone() {
        RootForms x = new RootForms();
        x.root(4);
        due("undo() of a new object", x.undo(), 0);
        due("trouble() of root", x.trouble(), 1);
        due("size(2)", x.size(2), 0);
        x.form(1, 0);
        due("undo()", x.undo(), 1);
        due("undo() behind the last one", x.undo(), 0);
        due("size(0)", x.size(0), 0);
        x.form(1, 0);
        x.root(-4);
        due("undo() behind root", x.undo(), 0);
        due("size(2)", x.size(2), 0);
    }

    private static void undoEachAct() {
        RootForms x = of(-4);
        x.form(5, 4);
        x.form(13, 10);
        x.step(0);
        x.reduce(1);
        x.reduce(1);
        due("size(2)", x.size(2), 5);
        dueForm(x, 1, 1, 0, 1);
        due("undo() of a reduce of none", x.undo(), 1);
        dueForm(x, 1, 1, 0, 1);
        due("size(2)", x.size(2), 4);
        due("undo() of a reduce", x.undo(), 1);
        dueForm(x, 1, 13, 10, 2);
        dueForm(x, 0, 1, 0, 1);
        due("undo() of a step", x.undo(), 1);
        dueForm(x, 0, 5, 4, 1);
        due("undo() of a form", x.undo(), 1);
        dueForm(x, 1, 0, 0, 0);
        due("size(0)", x.size(0), 1);
        due("size(2)", x.size(2), 1);
        accepted(x, "form in the place that is free", x.form(2, 2), 1);
    }

    private static void undoNoActs() {
        RootForms x = furnished(5);
        x.least(0);
        x.ring(0);
        x.classOf(0);
        x.check(0, 0, 1, 0, 0, 1);
        x.join(0, 0);
        x.back(0);
        x.order(0);
        x.group(0);
        x.genus(0);
        x.unit(0);
        x.period(2);
        x.quotient(2, 1);
        x.near(2, 1, true);
        x.takes(0, 1);
        x.proper(0, 1);
        x.squares(1);
        x.number(0, 0);
        x.way(0);
        due("size(2)", x.size(2), 3);
        /* (1, 3, 1) became (1, 1, -1). */
        dueForm(x, 1, 1, 1, -1);
        due("undo()", x.undo(), 1);
        dueForm(x, 1, 1, 3, 1);
        due("size(2)", x.size(2), 2);
    }

    private static void undoRefused() {
        RootForms x = furnished(-4);
        x.form(0, 0);
        x.form(3, 1);
        x.step(2);
        x.reduce(-1);
        x.root(4);
        due("size(2)", x.size(2), 3);
        due("undo()", x.undo(), 1);
        dueForm(x, 1, 1, 2, 2);
        x = full();
        x.form(1, 1);
        due("size(2)", x.size(2), 40);
        due("undo()", x.undo(), 1);
        due("size(0)", x.size(0), 39);
    }

    /** One form, then steps: so many acts in all, of which sixty at most can be taken back. */
    private static void undoMany(int acts) {
        RootForms x = of(3529);
        List<int[]> seen = new ArrayList<>();
        for (int i = 0; i < acts; i++) {
            if (i > 0) {
                seen.add(new int[] {x.number(0, 0), x.number(0, 1)});
            }
            due("act " + i, i == 0 ? x.form(1, 59) : x.step(0), i == 0 ? 0 : 1);
            if (i >= 58) {
                due("size(2) behind " + (i + 1) + " acts", x.size(2), Math.min(i + 1, 60));
            }
        }
        for (int back = 0; back < Math.min(acts, 60); back++) {
            due("undo()", x.undo(), 1);
            int left = acts - back - 2;
            due("a behind undo " + back, x.number(0, 0), left < 0 ? 0 : seen.get(left)[0]);
        }
        due("size(2)", x.size(2), 0);
        due("undo()", x.undo(), 0);
        due("size(0)", x.size(0), acts > 60 ? 1 : 0);
    }

    private static void undoAndOn() {
        RootForms x = of(-23);
        for (int i = 0; i < 40; i++) {
            x.form(1, 2 * i + 1);
        }
        for (int i = 0; i < 20; i++) {
            x.step(i);
        }
        due("size(2)", x.size(2), 60);
        x.undo();
        x.undo();
        due("size(2)", x.size(2), 58);
        dueForm(x, 18, 1, 37, 348);
        x.step(30);
        x.step(31);
        due("size(2)", x.size(2), 60);
        x.step(32);
        due("size(2)", x.size(2), 60);
        int[] stepped = {32, 31, 30, 17, 16, 15};
        for (int place : stepped) {
            due("c ahead of undo()", x.number(place, 2), 1);
            due("undo()", x.undo(), 1);
            dueForm(x, place, 1, 2 * place + 1, (4 * place * place + 4 * place + 24) / 4);
        }
        due("size(2)", x.size(2), 54);
    }

    private static void undoFull() {
        RootForms x = full();
        refused(x, "form(1, 1)", x.form(1, 1), 3);
        due("undo()", x.undo(), 1);
        due("trouble() of form", x.trouble(), 3);
        due("size(0)", x.size(0), 39);
        dueForm(x, 39, 0, 0, 0);
        accepted(x, "form(1, 1)", x.form(1, 1), 39);
        for (int i = 0; i < 40; i++) {
            due("undo()", x.undo(), 1);
        }
        due("size(0)", x.size(0), 0);
        due("undo()", x.undo(), 0);
        accepted(x, "form(1, 1)", x.form(1, 1), 0);
    }

    private static void undoForgotten() {
        RootForms x = full();
        for (int i = 0; i < 60; i++) {
            x.step(i % 40);
        }
        for (int i = 0; i < 60; i++) {
            due("undo()", x.undo(), 1);
        }
        due("undo()", x.undo(), 0);
        due("size(0)", x.size(0), 40);
        dueForm(x, 0, 1, 1, 6);
        dueForm(x, 39, 1, 79, 1566);
        refused(x, "form(1, 1)", x.form(1, 1), 3);
    }

    private static void undoStays() {
        RootForms x = furnished(-4);
        due("undo()", x.undo(), 1);
        dueWay(x, 0, -1, 1, 1);
        duePairs(x, 0, 5, 3, 4);
        due("undo()", x.undo(), 1);
        due("undo()", x.undo(), 1);
        due("undo()", x.undo(), 0);
        dueWay(x, 0, -1, 1, 1);
        duePairs(x, 0, 5, 3, 4);
        due("size(3)", x.size(3), -4);
    }

    private static void sizes() {
        RootForms x = furnished(-4000);
        due("size(0)", x.size(0), 2);
        due("size(1)", x.size(1), 2);
        due("size(2)", x.size(2), 3);
        due("size(3)", x.size(3), -4000);
        x = full();
        due("size(0)", x.size(0), 40);
        due("size(1)", x.size(1), 0);
        due("size(2)", x.size(2), 40);
        for (int i = 0; i < 30; i++) {
            x.reduce(0);
        }
        due("size(2)", x.size(2), 60);
    }

    private static void sizeOthers() {
        RootForms x = furnished(-4);
        x.root(0);
        for (int what : new int[] {-1, 4, MIN, MAX}) {
            due("size(" + what + ")", x.size(what), MIN);
        }
        due("trouble() of root", x.trouble(), 1);
    }

    private static void troubles() {
        RootForms x = new RootForms();
        due("trouble() of none", x.trouble(), 0);
        refused(x, "squares(-1)", x.squares(-1), 1);
        refused(x, "least(0)", x.least(0), 2);
        refused(x, "form(3, 1)", x.form(3, 1), 4);
        accepted(x, "form(1, 0)", x.form(1, 0), 0);
        refused(x, "ring(0)", x.ring(0), 5);
        refused(x, "near(2, 47, true)", x.near(2, 47, true), 6);
        refused(x, "check(0, 0, 0, 0, 0, 0)", x.check(0, 0, 0, 0, 0, 0), 7);
        for (int i = 1; i < 40; i++) {
            accepted(x, "form(1, 0)", x.form(1, 0), i);
        }
        refused(x, "form(1, 0)", x.form(1, 0), 3);
        due("trouble() again", x.trouble(), 3);
        accepted(x, "squares(0)", x.squares(0), 1);
    }

    /** Each way to be refused, from 1 to 7. */
    private static Call[] refusals() {
        return new Call[] {x -> x.form(0, 0), x -> x.least(-1), x -> x.form(1, 1), x -> x.form(5, 1), x -> x.ring(0),
            x -> x.near(2, 1000, false), x -> x.check(0, 0, 2, 0, 0, 2)};
    }

    private static void troubleStays() {
        Call[] refusals = refusals();
        for (int why = 1; why <= 7; why++) {
            RootForms x = full();
            refused(x, "a call", refusals[why - 1].on(x), why);
            x.number(0, 0);
            x.number(-1, 9);
            x.way(0);
            x.way(9);
            x.classes();
            x.head(0, 0);
            x.head(-1, 9);
            x.one();
            x.genera();
            x.pair(0, false);
            x.pair(-1, true);
            x.size(0);
            x.size(9);
            x.trouble();
            due("undo()", x.undo(), 1);
            due("trouble() behind what is never refused", x.trouble(), why);
            x = new RootForms();
            x.near(2, 1000, false);
            due("undo() of none", x.undo(), 0);
            due("trouble() behind it", x.trouble(), 6);
        }
    }

    private static void troubleEnds() {
        acceptedOf(-4, "root(5)", x -> x.root(5) ? 1 : 0, 1);
        acceptedOf(-4, "form(5, 4)", x -> x.form(5, 4), 2);
        acceptedOf(-4, "least(0)", x -> x.least(0), 1);
        acceptedOf(-4, "least(1)", x -> x.least(1), 0);
        acceptedOf(-4, "step(0)", x -> x.step(0), 1);
        acceptedOf(-4, "reduce(0)", x -> x.reduce(0), 0);
        acceptedOf(5, "ring(0)", x -> x.ring(0), 2);
        acceptedOf(-4, "classOf(0)", x -> x.classOf(0), 0);
        acceptedOf(-4, "check(0, 1, 1, 0, 0, 1)", x -> x.check(0, 1, 1, 0, 0, 1), 0);
        acceptedOf(-23, "join(1, 1)", x -> x.join(1, 1), 2);
        acceptedOf(-23, "back(0)", x -> x.back(0), 0);
        acceptedOf(-23, "order(0)", x -> x.order(0), 1);
        acceptedOf(-23, "group(0)", x -> x.group(0), 3);
        acceptedOf(-23, "genus(0)", x -> x.genus(0), 0);
        acceptedOf(5, "unit(0)", x -> x.unit(0), 1);
        acceptedOf(-4, "period(2)", x -> x.period(2), 1);
        acceptedOf(-4, "quotient(2, 0)", x -> x.quotient(2, 0), 1);
        acceptedOf(-4, "near(2, 0, true)", x -> x.near(2, 0, true), 1);
        acceptedOf(-4, "takes(0, 3)", x -> x.takes(0, 3), 0);
        acceptedOf(-4, "proper(0, 3)", x -> x.proper(0, 3), 0);
        acceptedOf(-4, "squares(3)", x -> x.squares(3), 0);
    }

    private static void manySteps() {
        /* The RING of D 5 has two FORMS, (1, 1, -1) and (-1, 1, 1). */
        for (int what = 0; what < 3; what++) {
            RootForms x = of(5);
            due("form(1, 1)", x.form(1, 1), 0);
            for (int call = 3; call < 511; call++) {
                due("step as call " + call, x.step(0), 1);
            }
            due("size(2) as call 511", x.size(2), 60);
            due("number as call 512", x.number(0, what), new int[] {1, 1, -1}[what]);
        }
    }

    private static void manyForms() {
        RootForms x = of(-4);
        for (int call = 2; call < 512; call++) {
            due("form as call " + call, x.form(1, 0), call < 42 ? call - 2 : NONE);
        }
        due("trouble() as call 512", x.trouble(), 3);
    }

    private static void manyUndos() {
        RootForms x = new RootForms();
        for (int turn = 0; turn < 127; turn++) {
            due("form in turn " + turn, x.form(5, 4), 0);
            due("reduce in turn " + turn, x.reduce(0), 1);
            due("undo of reduce in turn " + turn, x.undo(), 1);
            due("undo of form in turn " + turn, x.undo(), 1);
        }
        due("undo as call 509", x.undo(), 0);
        due("form as call 510", x.form(5, 4), 0);
        due("size(2) as call 511", x.size(2), 1);
        due("number as call 512", x.number(0, 0), 5);
    }

    private static void manyRoots() {
        int[][] known = {{-3911, 82, 83}, {-3299, 1, 9}, {3997, 1, 10}, {-4, 0, 1}};
        RootForms x = new RootForms();
        for (int turn = 0; turn < 256; turn++) {
            int[] row = known[turn % known.length];
            due("root(" + row[0] + ")", x.root(row[0]) ? 1 : 0, 1);
            due("order(" + row[1] + ") of D " + row[0], x.order(row[1]), row[2]);
        }
    }
}
