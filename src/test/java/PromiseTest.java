/** Each promise by its number: ordinary inputs, the edges that the document names, and wrong inputs. */
public final class PromiseTest extends Checks {

    public static void main(String[] args) {
        newObject();
        root();
        form();
        number();
        least();
        step();
        reduce();
        way();
        ring();
        classOf();
        check();
        classes();
        head();
        one();
        join();
        back();
        order();
        group();
        genus();
        genera();
        unit();
        period();
        quotient();
        near();
        takes();
        proper();
        squares();
        pair();
        undo();
        undoLimits();
        size();
        trouble();
        end();
    }

    private static void newObject() {
        about("promise 1");
        RootForms x = new RootForms();
        due("trouble()", x.trouble(), 0);
        due("size(3)", x.size(3), -4);
        due("size(0)", x.size(0), 0);
        due("size(1)", x.size(1), 0);
        due("size(2)", x.size(2), 0);
        due("pair(0, false)", x.pair(0, false), MIN);
        dueWay(x, 1, 0, 0, 1);
        due("form(1, 0)", x.form(1, 0), 0);
        due("classes()", x.classes(), 1);
    }

    private static void root() {
        about("promise 2");
        RootForms x = new RootForms();
        x.form(5, 4);
        x.reduce(0);
        x.squares(25);
        int[] no = {0, 1, 4, 9, 16, 25, 3600, 3721, 3844, 3969, 2, 3, 6, 7, -1, -2, -5, -6, 3998, 3999, -3998, -3997,
            4001, 4004, -4001, -4003, -4004, MAX, MIN, MIN + 1};
        for (int d : no) {
            due("root(" + d + ")", x.root(d) ? 1 : 0, 0);
            due("trouble()", x.trouble(), 1);
        }
        due("size(3)", x.size(3), -4);
        due("size(0)", x.size(0), 1);
        due("size(2)", x.size(2), 2);
        int[] yes = {-4000, 4000, 3997, -3999, -3996, 5, 8, 12, -3, -7, -8, 3996, -4};
        for (int d : yes) {
            due("root(" + d + ")", x.root(d) ? 1 : 0, 1);
            due("trouble()", x.trouble(), 0);
            due("size(3)", x.size(3), d);
            due("size(0)", x.size(0), 0);
            due("undo()", x.undo(), 0);
        }
        duePairs(x, 0, 5, 3, 4);
        dueWay(x, 0, -1, 1, 2);
        x.form(1, 0);
        x.form(1, 2);
        due("root(-4)", x.root(-4) ? 1 : 0, 1);
        due("size(0)", x.size(0), 0);
        due("size(2)", x.size(2), 0);
    }

    private static void form() {
        about("promise 3");
        RootForms x = new RootForms();
        accepted(x, "form(5, 4)", x.form(5, 4), 0);
        accepted(x, "form(5, -4)", x.form(5, -4), 1);
        accepted(x, "form(1, 1998)", x.form(1, 1998), 2);
        dueForm(x, 0, 5, 4, 1);
        dueForm(x, 1, 5, -4, 1);
        dueForm(x, 2, 1, 1998, 998_002);
        refused(x, "form(0, 0)", x.form(0, 0), 1);
        refused(x, "form(0, 2000000)", x.form(0, 2_000_000), 1);
        refused(x, "form(1000001, 0)", x.form(1_000_001, 0), 1);
        refused(x, "form(-1000001, 0)", x.form(-1_000_001, 0), 1);
        refused(x, "form(1, 1000001)", x.form(1, 1_000_001), 1);
        refused(x, "form(1, -1000001)", x.form(1, -1_000_001), 1);
        refused(x, "form(MIN, 0)", x.form(MIN, 0), 1);
        refused(x, "form(1, MIN)", x.form(1, MIN), 1);
        refused(x, "form(MAX, MAX)", x.form(MAX, MAX), 1);
        refused(x, "form(3, 1)", x.form(3, 1), 4);
        refused(x, "form(2, 0)", x.form(2, 0), 4);
        refused(x, "form(-1, 0)", x.form(-1, 0), 4);
        refused(x, "form(-5, 4)", x.form(-5, 4), 4);
        refused(x, "form(1, 2000)", x.form(1, 2000), 4);
        refused(x, "form(1, 1000000)", x.form(1, 1_000_000), 4);
        due("size(0)", x.size(0), 3);
        due("size(2)", x.size(2), 3);

        x = of(-12);
        refused(x, "form(2, 2)", x.form(2, 2), 4);
        accepted(x, "form(4, 2)", x.form(4, 2), 0);
        x = of(20);
        refused(x, "form(2, 2)", x.form(2, 2), 4);
        refused(x, "form(-2, 2)", x.form(-2, 2), 4);
        accepted(x, "form(-1, 2)", x.form(-1, 2), 0);
        dueForm(x, 0, -1, 2, 4);
        x = of(5);
        accepted(x, "form(-1, 1)", x.form(-1, 1), 0);
        dueForm(x, 0, -1, 1, 1);
        refused(x, "form(1, 2)", x.form(1, 2), 4);
    }

    private static void number() {
        about("promise 4");
        RootForms x = new RootForms();
        due("number(0, 0)", x.number(0, 0), 0);
        x.form(5, 4);
        x.form(0, 0);
        dueForm(x, 0, 5, 4, 1);
        due("number(0, 3)", x.number(0, 3), 0);
        due("number(0, -1)", x.number(0, -1), 0);
        due("number(1, 0)", x.number(1, 0), 0);
        due("number(-1, 0)", x.number(-1, 0), 0);
        due("number(40, 0)", x.number(40, 0), 0);
        due("number(MIN, MAX)", x.number(MIN, MAX), 0);
        due("number(MAX, 0)", x.number(MAX, 0), 0);
        due("trouble() of form", x.trouble(), 1);
    }

    private static void least() {
        about("promise 5");
        dueLeast(-4, 1, 0, 1);
        dueLeast(-4, 5, 4, 0);
        dueLeast(-20, 3, 2, 0);
        dueLeast(-15, 4, 1, 0);
        dueLeast(-15, 2, 3, 0);
        dueLeast(12, -1, 2, 1);
        dueLeast(12, -2, 2, 1);
        dueLeast(12, -3, 0, 0);
        dueLeast(12, 1, -2, 0);
        dueLeast(17, 2, 1, 1);
        RootForms x = new RootForms();
        refused(x, "least(0)", x.least(0), 2);
        refused(x, "least(-1)", x.least(-1), 2);
        refused(x, "least(MAX)", x.least(MAX), 2);
        refused(x, "least(MIN)", x.least(MIN), 2);
    }

    private static void dueStep(RootForms x, int a, int b, int c, int t) {
        accepted(x, "step(0)", x.step(0), 1);
        dueForm(x, 0, a, b, c);
        dueWay(x, 0, -1, 1, t);
    }

    private static void step() {
        about("promise 6");
        RootForms x = of(-23);
        x.form(2, 1);
        dueStep(x, 3, -1, 2, 0);
        dueStep(x, 2, 1, 3, 0);
        x = of(-20);
        x.form(3, 2);
        dueStep(x, 2, 2, 3, 1);
        x = of(-20);
        x.form(2, -2);
        dueStep(x, 3, 2, 2, 0);
        dueStep(x, 2, 2, 3, 1);
        x = of(12);
        x.form(1, 0);
        dueStep(x, -3, 0, 1, 0);
        dueStep(x, 1, 2, -2, 1);
        dueStep(x, -2, 2, 1, -1);
        dueStep(x, 1, 2, -2, 2);
        x = of(5);
        x.form(1, 5);
        dueStep(x, 5, 5, 1, 1);
        dueStep(x, 1, 1, -1, 3);
        dueStep(x, -1, 1, 1, -1);
        due("size(2)", x.size(2), 4);
        refused(x, "step(1)", x.step(1), 2);
        refused(x, "step(-1)", x.step(-1), 2);
        refused(x, "step(MAX)", x.step(MAX), 2);
        refused(x, "step(MIN)", x.step(MIN), 2);
        due("size(2)", x.size(2), 4);
        dueForm(x, 0, -1, 1, 1);
        dueWay(x, 0, -1, 1, -1);
    }

    private static void reduce() {
        about("promise 7");
        RootForms x = new RootForms();
        x.form(5, 4);
        accepted(x, "reduce(0)", x.reduce(0), 1);
        dueForm(x, 0, 1, 0, 1);
        dueWay(x, 0, -1, 1, 2);
        accepted(x, "reduce(0) of a LEAST one", x.reduce(0), 0);
        dueForm(x, 0, 1, 0, 1);
        dueWay(x, 1, 0, 0, 1);
        due("size(2)", x.size(2), 3);
        x = of(-20);
        x.form(2, -2);
        accepted(x, "reduce(0)", x.reduce(0), 2);
        dueForm(x, 0, 2, 2, 3);
        dueWay(x, -1, -1, 0, -1);
        x = of(12);
        x.form(1, 0);
        accepted(x, "reduce(0)", x.reduce(0), 2);
        dueForm(x, 0, 1, 2, -2);
        dueWay(x, -1, -1, 0, -1);
        x = of(-3999);
        x.form(1_000_000, -1999);
        accepted(x, "reduce(0)", x.reduce(0), 1);
        dueForm(x, 0, 1, 1, 1000);
        dueWay(x, 0, -1, 1, -999);
        refused(x, "reduce(1)", x.reduce(1), 2);
        refused(x, "reduce(-1)", x.reduce(-1), 2);
        refused(x, "reduce(MIN)", x.reduce(MIN), 2);
        refused(x, "reduce(MAX)", x.reduce(MAX), 2);
        due("size(2)", x.size(2), 2);
    }

    private static void way() {
        about("promise 8");
        RootForms x = new RootForms();
        dueWay(x, 1, 0, 0, 1);
        x.form(0, 0);
        due("way(4)", x.way(4), 0);
        due("way(-1)", x.way(-1), 0);
        due("way(MIN)", x.way(MIN), 0);
        due("way(MAX)", x.way(MAX), 0);
        due("trouble() of form", x.trouble(), 1);
        x.form(5, 4);
        x.form(13, 10);
        x.reduce(0);
        x.reduce(7);
        x.step(-1);
        dueWay(x, 0, -1, 1, 2);
        x.undo();
        dueWay(x, 0, -1, 1, 2);
        x.classOf(1);
        x.takes(1, 5);
        x.check(1, 1, 1, 0, 0, 1);
        dueWay(x, 0, -1, 1, 2);
        x.root(5);
        x.form(1, 5);
        x.ring(0);
        x.join(0, 0);
        dueWay(x, 0, -1, 1, 2);
        x.step(0);
        dueWay(x, 0, -1, 1, 1);
    }

    private static void dueRing(int d, int a, int b, int want) {
        RootForms x = of(d);
        x.form(a, b);
        int c = x.number(0, 2);
        accepted(x, "ring of (" + a + ", " + b + ") of " + d, x.ring(0), want);
        dueForm(x, 0, a, b, c);
        due("size(2)", x.size(2), 1);
    }

    private static void ring() {
        about("promise 9");
        dueRing(5, 1, 1, 2);
        dueRing(5, 1, 5, 2);
        dueRing(12, 1, 0, 2);
        dueRing(12, -1, 0, 2);
        dueRing(28, 1, 0, 4);
        dueRing(28, -1, 4, 4);
        dueRing(61, 1, 1, 6);
        dueRing(2521, 1, 1, 170);
        dueRing(3649, 1, 1, 98);
        RootForms x = of(5);
        refused(x, "ring(0)", x.ring(0), 2);
        refused(x, "ring(-1)", x.ring(-1), 2);
        x = of(-23);
        refused(x, "ring(0) of no FORM", x.ring(0), 2);
        x.form(2, 1);
        refused(x, "ring(0) with D below 0", x.ring(0), 5);
        refused(x, "ring(1) with D below 0", x.ring(1), 2);
        refused(x, "ring(MIN) with D below 0", x.ring(MIN), 2);
    }

    private static void classOf() {
        about("promise 10");
        RootForms x = of(-23);
        x.form(1, 5);
        x.form(2, -1);
        x.form(2, 1);
        x.form(6, 5);
        x.form(6, -5);
        x.form(3, 1);
        int[] want = {0, 1, 2, 1, 2, 1};
        for (int i = 0; i < want.length; i++) {
            accepted(x, "classOf(" + i + ")", x.classOf(i), want[i]);
        }
        dueForm(x, 3, 6, 5, 2);
        due("size(2)", x.size(2), 6);
        refused(x, "classOf(6)", x.classOf(6), 2);
        refused(x, "classOf(-1)", x.classOf(-1), 2);
        refused(x, "classOf(MIN)", x.classOf(MIN), 2);
        refused(x, "classOf(MAX)", x.classOf(MAX), 2);
        x = of(12);
        x.form(1, 0);
        x.form(-1, 0);
        x.form(-2, 2);
        x.form(3, 0);
        accepted(x, "classOf(0)", x.classOf(0), 0);
        accepted(x, "classOf(1)", x.classOf(1), 1);
        accepted(x, "classOf(2)", x.classOf(2), 0);
        accepted(x, "classOf(3)", x.classOf(3), 1);
    }

    private static void check() {
        about("promise 11");
        RootForms x = new RootForms();
        x.form(5, 4);
        x.form(1, 0);
        accepted(x, "check(0, 1, 0, -1, 1, 2)", x.check(0, 1, 0, -1, 1, 2), 1);
        accepted(x, "check(0, 1, 0, 1, -1, -2)", x.check(0, 1, 0, 1, -1, -2), 1);
        accepted(x, "check(1, 0, 2, 1, -1, 0)", x.check(1, 0, 2, 1, -1, 0), 1);
        accepted(x, "check(1, 0, 0, -1, 1, 2)", x.check(1, 0, 0, -1, 1, 2), 0);
        accepted(x, "check(0, 1, 1, 0, 0, 1)", x.check(0, 1, 1, 0, 0, 1), 0);
        accepted(x, "check(1, 1, 0, -1, 1, 0)", x.check(1, 1, 0, -1, 1, 0), 1);
        refused(x, "check with a worth of -1", x.check(1, 1, 0, 1, 1, 0), 7);
        refused(x, "check with a worth of 0", x.check(1, 1, 0, 0, 0, 0), 7);
        refused(x, "check with a worth of 4", x.check(1, 1, 2, 0, 0, 2), 7);
        refused(x, "check with a worth beyond int", x.check(1, 1, 65_536, -1, 1, 65_536), 7);
        refused(x, "check with p beyond", x.check(1, 1, 1_000_001, 0, 0, 1), 1);
        refused(x, "check with q beyond", x.check(1, 1, 1, -1_000_001, 0, 1), 1);
        refused(x, "check with r beyond", x.check(1, 1, 1, 0, MIN, 1), 1);
        refused(x, "check with s beyond", x.check(1, 1, 1, 0, 0, MAX), 1);
        refused(x, "check of no place", x.check(2, 1, 1, 0, 0, 1), 2);
        refused(x, "check to no place", x.check(1, -1, 1, 0, 0, 1), 2);
        refused(x, "check to no place, q beyond", x.check(0, 2, 1, MIN, 0, 1), 2);
        accepted(x, "check with q at the edge", x.check(1, 1, 1, 1_000_000, 0, 1), 0);
        accepted(x, "check with r at the edge", x.check(1, 1, 1, 0, -1_000_000, 1), 0);
        dueForm(x, 0, 5, 4, 1);
        due("size(2)", x.size(2), 2);
        /* x x + y y led by (1, 0, 999, 1) and by (1, 999, 0, 1) has 998002 at one end. */
        x.form(998_002, 1998);
        x.form(1, 1998);
        accepted(x, "check(1, 2, 1, 0, 999, 1)", x.check(1, 2, 1, 0, 999, 1), 1);
        accepted(x, "check(1, 3, 1, 999, 0, 1)", x.check(1, 3, 1, 999, 0, 1), 1);
        accepted(x, "check(1, 3, 1, -999, 0, 1)", x.check(1, 3, 1, -999, 0, 1), 0);
        checkGreat();
    }

    private static void checkGreat() {
        /* Greatest form and greatest substitution together: the sums must not run over. */
        RootForms x = of(-3020);
        x.form(997_005, 1_000_000);
        accepted(x, "check with great numbers", x.check(0, 0, 999_999, 1_000_000, 999_998, 999_999), 0);
        accepted(x, "check with great numbers", x.check(0, 0, 1_000_000, 999_999, -999_999, -999_998), 0);
        refused(x, "check with great numbers", x.check(0, 0, 1_000_000, 1_000_000, 1_000_000, 1_000_000), 7);
    }

    private static void classes() {
        about("promise 12");
        int[][] known = {{-3, 1}, {-4, 1}, {-7, 1}, {-12, 1}, {-15, 2}, {-20, 2}, {-23, 3}, {-47, 5}, {-56, 4},
            {-71, 7}, {-84, 4}, {-163, 1}, {-1155, 8}, {-3299, 27}, {-3360, 16}, {-3896, 36}, {-3911, 83},
            {-3999, 48}, {-4000, 20}, {5, 1}, {8, 1}, {12, 2}, {13, 1}, {21, 2}, {28, 2}, {40, 2}, {60, 4}, {61, 1},
            {136, 4}, {145, 4}, {229, 3}, {2521, 1}, {3649, 2}, {4000, 4}};
        RootForms x = new RootForms();
        x.form(0, 0);
        for (int[] row : known) {
            RootForms y = of(row[0]);
            due("classes() of " + row[0], y.classes(), row[1]);
        }
        due("classes()", x.classes(), 1);
        due("trouble() of form", x.trouble(), 1);
        x.root(-23);
        due("classes()", x.classes(), 3);
        x.root(-24);
        due("classes()", x.classes(), 2);
        x.root(-22);
        due("classes()", x.classes(), 2);
    }

    private static void head() {
        about("promise 13");
        RootForms x = of(-56);
        dueHead(x, 0, 1, 0, 14);
        dueHead(x, 1, 2, 0, 7);
        dueHead(x, 2, 3, -2, 5);
        dueHead(x, 3, 3, 2, 5);
        x.form(0, 0);
        dueHead(x, 4, 0, 0, 0);
        dueHead(x, -1, 0, 0, 0);
        dueHead(x, MIN, 0, 0, 0);
        dueHead(x, MAX, 0, 0, 0);
        due("head(3, 3)", x.head(3, 3), 0);
        due("head(3, -1)", x.head(3, -1), 0);
        due("trouble() of form", x.trouble(), 1);
        x = of(60);
        dueHead(x, 0, 1, 6, -6);
        dueHead(x, 1, 2, 6, -3);
        dueHead(x, 2, 3, 6, -2);
        dueHead(x, 3, 6, 6, -1);
        x = of(229);
        dueHead(x, 0, 1, 15, -1);
        dueHead(x, 1, 3, 11, -9);
        dueHead(x, 2, 3, 13, -5);
        x = of(5);
        dueHead(x, 0, 1, 1, -1);
    }

    private static void one() {
        about("promise 14");
        for (int d : new int[] {-4, -3, -23, -3911, 5, 12, 60, 3649, 4000, -4000}) {
            RootForms x = of(d);
            x.form(0, 0);
            due("one() of " + d, x.one(), 0);
            due("trouble() of form", x.trouble(), 1);
            x.form(1, d & 1);
            due("classOf(0)", x.classOf(0), x.one());
            due("head(one, 0)", x.head(x.one(), 0), 1);
        }
    }

    private static void join() {
        about("promise 15");
        RootForms x = of(-23);
        accepted(x, "join(1, 1)", x.join(1, 1), 2);
        accepted(x, "join(2, 2)", x.join(2, 2), 1);
        accepted(x, "join(1, 2)", x.join(1, 2), 0);
        accepted(x, "join(0, 2)", x.join(0, 2), 2);
        refused(x, "join(3, 0)", x.join(3, 0), 2);
        refused(x, "join(0, 3)", x.join(0, 3), 2);
        refused(x, "join(-1, 0)", x.join(-1, 0), 2);
        refused(x, "join(0, -1)", x.join(0, -1), 2);
        refused(x, "join(MIN, MAX)", x.join(MIN, MAX), 2);
        x = of(-56);
        accepted(x, "join(1, 1)", x.join(1, 1), 0);
        accepted(x, "join(2, 2)", x.join(2, 2), 1);
        accepted(x, "join(3, 3)", x.join(3, 3), 1);
        accepted(x, "join(2, 3)", x.join(2, 3), 0);
        accepted(x, "join(1, 2)", x.join(1, 2), 3);
        x = of(-84);
        accepted(x, "join(1, 2)", x.join(1, 2), 3);
        accepted(x, "join(1, 3)", x.join(1, 3), 2);
        accepted(x, "join(2, 3)", x.join(2, 3), 1);
        x = of(60);
        accepted(x, "join(1, 2)", x.join(1, 2), 3);
        accepted(x, "join(3, 3)", x.join(3, 3), 0);
        x = of(229);
        accepted(x, "join(1, 1)", x.join(1, 1), 2);
        accepted(x, "join(1, 2)", x.join(1, 2), 0);
    }

    private static void back() {
        about("promise 16");
        RootForms x = of(-23);
        accepted(x, "back(0)", x.back(0), 0);
        accepted(x, "back(1)", x.back(1), 2);
        accepted(x, "back(2)", x.back(2), 1);
        refused(x, "back(3)", x.back(3), 2);
        refused(x, "back(-1)", x.back(-1), 2);
        refused(x, "back(MIN)", x.back(MIN), 2);
        refused(x, "back(MAX)", x.back(MAX), 2);
        x = of(-20);
        accepted(x, "back(1)", x.back(1), 1);
        x = of(229);
        accepted(x, "back(1)", x.back(1), 2);
        x = of(12);
        accepted(x, "back(1)", x.back(1), 1);
    }

    private static void order() {
        about("promise 17");
        RootForms x = of(-56);
        accepted(x, "order(0)", x.order(0), 1);
        accepted(x, "order(1)", x.order(1), 2);
        accepted(x, "order(2)", x.order(2), 4);
        accepted(x, "order(3)", x.order(3), 4);
        refused(x, "order(4)", x.order(4), 2);
        refused(x, "order(-1)", x.order(-1), 2);
        refused(x, "order(MIN)", x.order(MIN), 2);
        refused(x, "order(MAX)", x.order(MAX), 2);
        x = of(-3911);
        accepted(x, "order(0)", x.order(0), 1);
        for (int i = 1; i < 83; i++) {
            accepted(x, "order(" + i + ")", x.order(i), 83);
        }
        refused(x, "order(83)", x.order(83), 2);
        x.root(12);
        accepted(x, "order(1)", x.order(1), 2);
        refused(x, "order(2)", x.order(2), 2);
    }

    private static void dueGroup(int d, int... rings) {
        RootForms x = of(d);
        for (int k = 0; k < rings.length; k++) {
            accepted(x, "group(" + k + ") of " + d, x.group(k), rings[k]);
        }
        refused(x, "group behind the last one of " + d, x.group(rings.length), 2);
        refused(x, "group(-1) of " + d, x.group(-1), 2);
        refused(x, "group(MIN) of " + d, x.group(MIN), 2);
        refused(x, "group(MAX) of " + d, x.group(MAX), 2);
    }

    private static void group() {
        about("promise 18");
        dueGroup(-4);
        dueGroup(-163);
        dueGroup(5);
        dueGroup(-23, 3);
        dueGroup(-56, 4);
        dueGroup(-84, 2, 2);
        dueGroup(-1155, 2, 2, 2);
        dueGroup(-3360, 2, 2, 2, 2);
        dueGroup(-3299, 9, 3);
        dueGroup(-3896, 12, 3);
        dueGroup(-4000, 10, 2);
        dueGroup(-3999, 24, 2);
        dueGroup(-3911, 83);
        dueGroup(60, 2, 2);
        dueGroup(145, 4);
        dueGroup(136, 4);
        dueGroup(4000, 2, 2);
    }

    private static void genus() {
        about("promise 19");
        RootForms x = of(-56);
        int[] want = {0, 0, 1, 1};
        for (int i = 0; i < 4; i++) {
            accepted(x, "genus(" + i + ")", x.genus(i), want[i]);
        }
        refused(x, "genus(4)", x.genus(4), 2);
        refused(x, "genus(-1)", x.genus(-1), 2);
        refused(x, "genus(MIN)", x.genus(MIN), 2);
        refused(x, "genus(MAX)", x.genus(MAX), 2);
        x = of(-84);
        for (int i = 0; i < 4; i++) {
            accepted(x, "genus(" + i + ")", x.genus(i), i);
        }
        x = of(-23);
        for (int i = 0; i < 3; i++) {
            accepted(x, "genus(" + i + ")", x.genus(i), 0);
        }
        x = of(145);
        for (int i = 0; i < 4; i++) {
            accepted(x, "genus(" + i + ")", x.genus(i), x.order(i) <= 2 ? 0 : 1);
        }
    }

    private static void genera() {
        about("promise 20");
        int[][] known = {{-4, 1}, {-23, 1}, {-56, 2}, {-84, 4}, {-1155, 8}, {-3360, 16}, {-3299, 1}, {-3896, 2},
            {-3911, 1}, {5, 1}, {12, 2}, {60, 4}, {145, 2}, {136, 2}, {229, 1}, {4000, 4}};
        for (int[] row : known) {
            RootForms x = of(row[0]);
            x.form(0, 0);
            due("genera() of " + row[0], x.genera(), row[1]);
            due("trouble() of form", x.trouble(), 1);
        }
    }

    private static void dueUnit(int d, long t, long u, int four) {
        RootForms x = of(d);
        accepted(x, "unit(0) of " + d, x.unit(0), t);
        accepted(x, "unit(1) of " + d, x.unit(1), u);
        accepted(x, "unit(2) of " + d, x.unit(2), four);
        refused(x, "unit(3) of " + d, x.unit(3), 1);
        refused(x, "unit(-1) of " + d, x.unit(-1), 1);
    }

    private static void unit() {
        about("promise 21");
        dueUnit(28, 16, 3, 4);
        dueUnit(61, 39, 5, -4);
        dueUnit(244, 59_436, 3805, -4);
        dueUnit(376, 4_286_590, 221_064, 4);
        for (int d : new int[] {2441, 3964}) {
            RootForms x = of(d);
            for (int what = 0; what < 3; what++) {
                refused(x, "unit(" + what + ") of " + d, x.unit(what), 6);
            }
            refused(x, "unit(3) of " + d, x.unit(3), 1);
            refused(x, "unit(MIN) of " + d, x.unit(MIN), 1);
        }
        RootForms x = of(-23);
        refused(x, "unit(0) with D below 0", x.unit(0), 5);
        refused(x, "unit(3) with D below 0", x.unit(3), 5);
    }

    private static void period() {
        about("promise 22");
        RootForms x = new RootForms();
        int[][] known = {{2, 1}, {3, 2}, {5, 1}, {7, 4}, {13, 5}, {14, 4}, {61, 11}, {94, 16}, {9949, 217}, {9998, 4},
            {9999, 2}};
        for (int[] row : known) {
            accepted(x, "period(" + row[0] + ")", x.period(row[0]), row[1]);
        }
        for (int n : new int[] {1, 0, -1, -2, 4, 9, 9801, 10_000, 10_001, 10_002, MAX, MIN}) {
            refused(x, "period(" + n + ")", x.period(n), 1);
        }
    }

    private static void quotient() {
        about("promise 23");
        RootForms x = new RootForms();
        int[] seven = {2, 1, 1, 1, 4, 1, 1, 1, 4};
        for (int k = 0; k < seven.length; k++) {
            accepted(x, "quotient(7, " + k + ")", x.quotient(7, k), seven[k]);
        }
        accepted(x, "quotient(7, 1000)", x.quotient(7, 1000), 4);
        accepted(x, "quotient(7, 999)", x.quotient(7, 999), 1);
        accepted(x, "quotient(9999, 0)", x.quotient(9999, 0), 99);
        accepted(x, "quotient(9999, 1)", x.quotient(9999, 1), 1);
        accepted(x, "quotient(9999, 1000)", x.quotient(9999, 1000), 198);
        refused(x, "quotient(7, 1001)", x.quotient(7, 1001), 1);
        refused(x, "quotient(7, -1)", x.quotient(7, -1), 1);
        refused(x, "quotient(7, MIN)", x.quotient(7, MIN), 1);
        refused(x, "quotient(9, 0)", x.quotient(9, 0), 1);
        refused(x, "quotient(1, 0)", x.quotient(1, 0), 1);
        refused(x, "quotient(10000, 0)", x.quotient(10_000, 0), 1);
        refused(x, "quotient(10001, 0)", x.quotient(10_001, 0), 1);
        refused(x, "quotient(MIN, MAX)", x.quotient(MIN, MAX), 1);
    }

    private static void near() {
        about("promise 24");
        RootForms x = new RootForms();
        long[][] two = {{1, 1}, {3, 2}, {7, 5}, {17, 12}, {41, 29}};
        for (int k = 0; k < two.length; k++) {
            accepted(x, "near(2, " + k + ", false)", x.near(2, k, false), two[k][0]);
            accepted(x, "near(2, " + k + ", true)", x.near(2, k, true), two[k][1]);
        }
        accepted(x, "near(2, 46, false)", x.near(2, 46, false), 489_133_282_872_437_279L);
        accepted(x, "near(2, 46, true)", x.near(2, 46, true), 345_869_461_223_138_161L);
        refused(x, "near(2, 47, false)", x.near(2, 47, false), 6);
        refused(x, "near(2, 47, true)", x.near(2, 47, true), 6);
        refused(x, "near(9999, 1000, true)", x.near(9999, 1000, true), 6);
        accepted(x, "near(7, 3, false)", x.near(7, 3, false), 8);
        accepted(x, "near(7, 3, true)", x.near(7, 3, true), 3);
        refused(x, "near(2, 1001, false)", x.near(2, 1001, false), 1);
        refused(x, "near(2, -1, false)", x.near(2, -1, false), 1);
        refused(x, "near(4, 0, false)", x.near(4, 0, false), 1);
        refused(x, "near(1, 0, true)", x.near(1, 0, true), 1);
        refused(x, "near(10001, 0, true)", x.near(10_001, 0, true), 1);
        refused(x, "near(4, 1000, true)", x.near(4, 1000, true), 1);
        refused(x, "near(MIN, MIN, true)", x.near(MIN, MIN, true), 1);
    }

    private static void takes() {
        about("promise 25");
        RootForms x = new RootForms();
        x.form(1, 0);
        x.form(5, 4);
        accepted(x, "takes(0, 1)", x.takes(0, 1), 4);
        duePairs(x, -1, 0, 0, -1, 0, 1, 1, 0);
        accepted(x, "takes(1, 5)", x.takes(1, 5), 8);
        duePairs(x, -2, 3, -2, 5, -1, 0, -1, 4, 1, -4, 1, 0, 2, -5, 2, -3);
        refused(x, "takes(2, 1)", x.takes(2, 1), 2);
        refused(x, "takes(-1, 0)", x.takes(-1, 0), 2);
        refused(x, "takes(MIN, MIN)", x.takes(MIN, MIN), 2);
        refused(x, "takes(0, 0)", x.takes(0, 0), 1);
        refused(x, "takes(0, -1)", x.takes(0, -1), 1);
        refused(x, "takes(0, 100001)", x.takes(0, 100_001), 1);
        refused(x, "takes(0, MAX)", x.takes(0, MAX), 1);
        due("size(1)", x.size(1), 8);
        due("pair(1, true)", x.pair(1, true), 5);
        accepted(x, "takes(0, 100000)", x.takes(0, 100_000), 24);
        accepted(x, "takes(0, 3)", x.takes(0, 3), 0);
        due("size(1)", x.size(1), 0);
        dueForm(x, 1, 5, 4, 1);
        due("size(2)", x.size(2), 2);
        x = of(-3);
        x.form(1, 1);
        accepted(x, "takes(0, 1)", x.takes(0, 1), 6);
        duePairs(x, -1, 0, -1, 1, 0, -1, 0, 1, 1, -1, 1, 0);
        accepted(x, "takes(0, 53599)", x.takes(0, 53_599), 96);
        due("size(1)", x.size(1), 96);
        x = of(-23);
        x.form(2, 1);
        accepted(x, "takes(0, 6)", x.takes(0, 6), 2);
        duePairs(x, -1, -1, 1, 1);
        takesOther();
    }

    private static void takesOther() {
        RootForms x = of(-3999);
        x.form(1, 1999);
        accepted(x, "takes(0, 1)", x.takes(0, 1), 2);
        duePairs(x, -1, 0, 1, 0);
        accepted(x, "takes(0, 1000)", x.takes(0, 1000), 4);
        duePairs(x, -1000, 1, -999, 1, 999, -1, 1000, -1);
        x = of(-23);
        x.form(6, 5);
        x.form(1, 1);
        accepted(x, "takes(1, 6)", x.takes(1, 6), 4);
        duePairs(x, -1, 1, 0, -1, 0, 1, 1, -1);
        accepted(x, "takes(0, 3)", x.takes(0, 3), 2);
        duePairs(x, -1, 1, 1, -1);
        x = of(5);
        x.squares(25);
        refused(x, "takes(0, 0) with D above 0", x.takes(0, 0), 2);
        x.form(1, 1);
        refused(x, "takes(0, 1) with D above 0", x.takes(0, 1), 5);
        refused(x, "takes(0, 0) with D above 0", x.takes(0, 0), 5);
        refused(x, "takes(1, 1) with D above 0", x.takes(1, 1), 2);
        duePairs(x, 0, 5, 3, 4);
    }

    private static void proper() {
        about("promise 26");
        RootForms x = of(-23);
        x.form(2, 1);
        x.form(1, 1);
        x.form(2, -1);
        accepted(x, "proper(0, 2)", x.proper(0, 2), 1);
        accepted(x, "proper(2, 2)", x.proper(2, 2), 1);
        accepted(x, "proper(1, 2)", x.proper(1, 2), 0);
        accepted(x, "proper(1, 6)", x.proper(1, 6), 2);
        accepted(x, "proper(1, 1)", x.proper(1, 1), 1);
        accepted(x, "proper(1, 5)", x.proper(1, 5), 0);
        refused(x, "proper(0, 0)", x.proper(0, 0), 1);
        refused(x, "proper(0, -2)", x.proper(0, -2), 1);
        refused(x, "proper(0, 20001)", x.proper(0, 20_001), 1);
        refused(x, "proper(0, MIN)", x.proper(0, MIN), 1);
        refused(x, "proper(0, MAX)", x.proper(0, MAX), 1);
        refused(x, "proper(3, 0)", x.proper(3, 0), 2);
        refused(x, "proper(-1, 2)", x.proper(-1, 2), 2);
        due("size(2)", x.size(2), 3);
        x = of(-12);
        x.form(1, 0);
        accepted(x, "proper(0, 2)", x.proper(0, 2), 0);
        accepted(x, "proper(0, 4)", x.proper(0, 4), 2);
        accepted(x, "proper(0, 3)", x.proper(0, 3), 1);
        x = of(-4);
        x.form(1, 0);
        /* 4 divides 20000, so x and y would both be even; 1105 is 5 13 17, each prime with two roots of -1. */
        accepted(x, "proper(0, 20000)", x.proper(0, 20_000), 0);
        accepted(x, "proper(0, 1105)", x.proper(0, 1105), 8);
        accepted(x, "proper(0, 2210)", x.proper(0, 2210), 8);
        x = of(12);
        x.form(1, 0);
        x.form(-1, 0);
        accepted(x, "proper(0, 1)", x.proper(0, 1), 1);
        accepted(x, "proper(0, -1)", x.proper(0, -1), 0);
        accepted(x, "proper(1, -1)", x.proper(1, -1), 1);
        accepted(x, "proper(0, -2)", x.proper(0, -2), 1);
        accepted(x, "proper(0, 2)", x.proper(0, 2), 0);
        accepted(x, "proper(0, 13)", x.proper(0, 13), 2);
        accepted(x, "proper(0, -20000)", x.proper(0, -20_000), 0);
        refused(x, "proper(0, -20001)", x.proper(0, -20_001), 1);
        refused(x, "proper(0, 0)", x.proper(0, 0), 1);
    }

    private static void squares() {
        about("promise 27");
        RootForms x = new RootForms();
        accepted(x, "squares(0)", x.squares(0), 1);
        duePairs(x, 0, 0);
        accepted(x, "squares(1)", x.squares(1), 1);
        duePairs(x, 0, 1);
        accepted(x, "squares(2)", x.squares(2), 1);
        duePairs(x, 1, 1);
        accepted(x, "squares(50)", x.squares(50), 2);
        duePairs(x, 1, 7, 5, 5);
        accepted(x, "squares(1105)", x.squares(1105), 4);
        duePairs(x, 4, 33, 9, 32, 12, 31, 23, 24);
        for (int n : new int[] {-1, 1_000_000_001, MAX, MIN}) {
            refused(x, "squares(" + n + ")", x.squares(n), 1);
        }
        duePairs(x, 4, 33, 9, 32, 12, 31, 23, 24);
        accepted(x, "squares(3)", x.squares(3), 0);
        duePairs(x);
        accepted(x, "squares(1000000000)", x.squares(1_000_000_000), 5);
        duePairs(x, 1200, 31_600, 7696, 30_672, 10_000, 30_000, 18_000, 26_000, 19_920, 24_560);
    }

    private static void pair() {
        about("promise 28");
        RootForms x = new RootForms();
        due("pair(0, true)", x.pair(0, true), MIN);
        x.squares(25);
        x.form(0, 0);
        due("pair(0, false)", x.pair(0, false), 0);
        due("pair(0, true)", x.pair(0, true), 5);
        due("pair(1, false)", x.pair(1, false), 3);
        due("pair(1, true)", x.pair(1, true), 4);
        due("pair(2, false)", x.pair(2, false), MIN);
        due("pair(-1, true)", x.pair(-1, true), MIN);
        due("pair(200, true)", x.pair(200, true), MIN);
        due("pair(MAX, true)", x.pair(MAX, true), MIN);
        due("pair(MIN, false)", x.pair(MIN, false), MIN);
        due("trouble() of form", x.trouble(), 1);
    }

    private static void undo() {
        about("promise 29");
        RootForms x = new RootForms();
        due("undo()", x.undo(), 0);
        x.form(5, 4);
        x.form(1, 2);
        x.step(0);
        x.reduce(1);
        x.reduce(1);
        x.step(9);
        x.reduce(-1);
        x.form(3, 1);
        due("trouble() of form", x.trouble(), 4);
        due("size(2)", x.size(2), 5);
        due("undo()", x.undo(), 1);
        due("trouble() of form", x.trouble(), 4);
        dueForm(x, 1, 1, 0, 1);
        due("undo()", x.undo(), 1);
        dueForm(x, 1, 1, 2, 2);
        dueForm(x, 0, 1, 0, 1);
        due("undo()", x.undo(), 1);
        dueForm(x, 0, 5, 4, 1);
        due("size(0)", x.size(0), 2);
        x.squares(25);
        due("undo()", x.undo(), 1);
        due("size(0)", x.size(0), 1);
        due("number(1, 0)", x.number(1, 0), 0);
        duePairs(x, 0, 5, 3, 4);
        dueWay(x, 1, 0, 0, 1);
        due("form(1, 0)", x.form(1, 0), 1);
        due("undo()", x.undo(), 1);
        due("undo()", x.undo(), 1);
        due("undo()", x.undo(), 0);
        due("size(0)", x.size(0), 0);
        due("trouble()", x.trouble(), 0);
        x.form(0, 0);
        due("undo()", x.undo(), 0);
        due("trouble() of form", x.trouble(), 1);
    }

    private static void undoLimits() {
        about("promise 29");
        RootForms x = of(-23);
        for (int i = 0; i < 40; i++) {
            x.form(1, 2 * i + 1);
        }
        for (int i = 0; i < 25; i++) {
            x.step(i);
            due("size(2)", x.size(2), Math.min(60, 41 + i));
        }
        for (int i = 0; i < 10; i++) {
            due("undo()", x.undo(), 1);
        }
        due("size(2)", x.size(2), 50);
        dueForm(x, 15, 1, 31, 246);
        dueForm(x, 14, 216, -29, 1);
        for (int i = 15; i < 20; i++) {
            x.reduce(i);
        }
        due("size(2)", x.size(2), 55);
        for (int i = 0; i < 55; i++) {
            due("undo()", x.undo(), 1);
        }
        due("undo()", x.undo(), 0);
        due("size(0)", x.size(0), 5);
        due("size(2)", x.size(2), 0);
        dueForm(x, 4, 1, 9, 26);
        dueForm(x, 0, 1, 1, 6);
    }

    private static void size() {
        about("promise 30");
        RootForms x = of(-3);
        x.form(1, 1);
        x.form(1, 3);
        x.reduce(1);
        x.takes(0, 7);
        x.form(0, 0);
        due("size(0)", x.size(0), 2);
        due("size(1)", x.size(1), 12);
        due("size(2)", x.size(2), 3);
        due("size(3)", x.size(3), -3);
        due("size(4)", x.size(4), MIN);
        due("size(-1)", x.size(-1), MIN);
        due("size(MAX)", x.size(MAX), MIN);
        due("size(MIN)", x.size(MIN), MIN);
        due("trouble() of form", x.trouble(), 1);
    }

    private static void trouble() {
        about("promise 31");
        RootForms x = new RootForms();
        due("trouble()", x.trouble(), 0);
        x.root(1);
        due("trouble()", x.trouble(), 1);
        due("trouble()", x.trouble(), 1);
        x.number(9, 9);
        x.way(9);
        x.classes();
        x.head(9, 9);
        x.one();
        x.genera();
        x.pair(9, true);
        x.undo();
        x.size(9);
        due("trouble() behind calls that are never refused", x.trouble(), 1);
        x.least(0);
        due("trouble()", x.trouble(), 2);
        x.form(1, 0);
        due("trouble()", x.trouble(), 0);
        x.form(1, 1);
        due("trouble()", x.trouble(), 4);
        x.ring(0);
        due("trouble()", x.trouble(), 5);
        x.near(2, 100, true);
        due("trouble()", x.trouble(), 6);
        x.check(0, 0, 2, 0, 0, 2);
        due("trouble()", x.trouble(), 7);
        x.squares(5);
        due("trouble()", x.trouble(), 0);
    }
}
