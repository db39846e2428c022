import java.math.BigInteger;
import java.util.HashMap;
import java.util.Map;

/**
 * Every discriminant and many roots: what must hold by the document. With a number as argument, the dear
 * comparisons take every discriminant or root whose place has a rest of 0 by that number.
 */
public final class TheoryTest {

    private static final BigInteger BIGGEST = BigInteger.TEN.pow(18);

    private static int wrong = 0;
    private static final Map<Integer, SlowForms.House> HOUSES = new HashMap<>();

    public static void main(String[] args) {
        int stride = args.length > 0 ? Integer.parseInt(args[0]) : 53;
        int first = args.length > 1 ? Integer.parseInt(args[1]) : 0;
        RootForms forms = new RootForms();
        for (int d = -4100; d <= 4100; d++) {
            boolean is = SlowForms.isDiscriminant(d);
            due(d, "root", forms.root(d) ? 1 : 0, is ? 1 : 0);
            if (!is) {
                continue;
            }
            checkHeads(d, forms);
            checkGroup(d, forms);
            checkUnit(d, forms);
            if (Math.floorMod(d, stride) == first) {
                checkJoins(d, forms);
            }
        }
        for (int n = 2; n <= 10_000; n++) {
            if (n % stride == first && SlowForms.rootOf(n) * SlowForms.rootOf(n) != n) {
                checkQuotients(n, forms);
            }
        }
        System.out.println(wrong == 0 ? "all answers are as due" : wrong + " answers are not as due");
        if (wrong != 0) {
            System.exit(1);
        }
    }

    private static void due(int d, String what, long got, long want) {
        if (got != want) {
            wrong++;
            System.out.println("of " + d + ": " + what + " answered " + got + ", due is " + want);
        }
    }

    private static void checkHeads(int d, RootForms forms) {
        SlowForms.House house = new SlowForms.House(d);
        due(d, "classes", forms.classes(), house.heads.size());
        for (int i = 0; i < house.heads.size(); i++) {
            for (int what = 0; what < 3; what++) {
                due(d, "head " + i, forms.head(i, what), house.heads.get(i)[what]);
            }
        }
        due(d, "one", forms.one(), house.one());
    }

    private static void checkGroup(int d, RootForms forms) {
        int h = forms.classes();
        int one = forms.one();
        int product = 1;
        int last = 0;
        for (int k = 0; k < 10 && forms.group(k) != RootForms.NONE; k++) {
            int ring = forms.group(k);
            due(d, "ring above 1", ring > 1 ? 1 : 0, 1);
            due(d, "ring divided by the next one", last % ring, 0);
            last = ring;
            product *= ring;
        }
        due(d, "product of the rings", product, h);
        int most = 1;
        int twice = 0;
        for (int i = 0; i < h; i++) {
            due(d, "join with ONE", forms.join(i, one), i);
            due(d, "join with BACK", forms.join(i, forms.back(i)), one);
            due(d, "join turned", forms.join(i, (i * 7 + 3) % h), forms.join((i * 7 + 3) % h, i));
            int j = (i * 5 + 1) % h;
            int k = (i * 3 + 2) % h;
            due(d, "join of three", forms.join(forms.join(i, j), k), forms.join(i, forms.join(j, k)));
            most = Math.max(most, forms.order(i));
            twice += forms.order(i) <= 2 ? 1 : 0;
            int square = forms.join(j, j);
            due(d, "genus", forms.genus(forms.join(i, square)), forms.genus(i));
        }
        due(d, "greatest order is ring 0", h == 1 ? 1 : forms.group(0), most);
        due(d, "genera are as many as classes of order 1 or 2", forms.genera(), twice);
    }

    private static void checkUnit(int d, RootForms forms) {
        if (d < 0) {
            due(d, "unit", forms.unit(0), RootForms.NONE);
            return;
        }
        BigInteger[] unit = SlowForms.unitOf(d);
        boolean big = unit[0].compareTo(BIGGEST) > 0;
        for (int what = 0; what < 3; what++) {
            due(d, "unit " + what, forms.unit(what), big ? RootForms.NONE : unit[what].longValueExact());
        }
        due(d, "trouble of unit", forms.trouble(), big ? 6 : 0);
        long bound = unit[1].min(BigInteger.valueOf(3000)).longValueExact();
        for (long u = 1; u <= bound; u++) {
            for (long four = -4; four <= 4; four += 8) {
                long square = d * u * u + four;
                long t = square <= 0 ? 0 : SlowForms.rootOf(square);
                if (t > 0 && t * t == square) {
                    due(d, "least u", forms.unit(1), u);
                    due(d, "its t", forms.unit(0), t);
                    due(d, "its 4", forms.unit(2), four);
                    return;
                }
            }
        }
        due(d, "none is less", unit[1].compareTo(BigInteger.valueOf(3000)) > 0 ? 1 : 0, 1);
    }

    private static void checkJoins(int d, RootForms forms) {
        SlowForms slow = new SlowForms(HOUSES);
        slow.root(d);
        for (int i = 0; i < slow.classes(); i++) {
            for (int j = 0; j < slow.classes(); j++) {
                due(d, "join " + i + " " + j, forms.join(i, j), slow.join(i, j));
            }
            due(d, "back " + i, forms.back(i), slow.back(i));
            due(d, "order " + i, forms.order(i), slow.order(i));
            due(d, "genus " + i, forms.genus(i), slow.genus(i));
        }
        for (int k = 0; k < 6; k++) {
            due(d, "group " + k, forms.group(k), slow.group(k));
        }
        due(d, "genera", forms.genera(), slow.genera());
        HOUSES.clear();
    }

    private static void checkQuotients(int n, RootForms forms) {
        SlowForms slow = new SlowForms(HOUSES);
        due(n, "period", forms.period(n), slow.period(n));
        for (int k = 0; k <= 1000; k++) {
            due(n, "quotient " + k, forms.quotient(n, k), slow.quotient(n, k));
        }
        for (int k = 0; k < 60; k++) {
            due(n, "near " + k, forms.near(n, k, false), slow.near(n, k, false));
            due(n, "trouble of near " + k, forms.trouble(), slow.trouble());
            due(n, "near below " + k, forms.near(n, k, true), slow.near(n, k, true));
        }
    }
}
