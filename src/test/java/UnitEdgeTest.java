/** The boundary cases of units and quotients (promises 21 to 24, 'Terms' IV), each with a test of its own. */
public final class UnitEdgeTest extends Checks {

    public static void main(String[] args) {
        edge("IV: the least t, u above 0 (by u; of one u -4 first)", UnitEdgeTest::unitLeast);
        edge("promise 21: what 0 t, 1 u, 2 whether 4 or -4", UnitEdgeTest::unitWhat);
        edge("IV: BIG if t is above 1,000,000,000,000,000,000", UnitEdgeTest::unitBig);
        edge("promise 21: 5, D is not of that sign", UnitEdgeTest::unitSign);
        edge("promise 21: 5; 1 (what); 6", UnitEdgeTest::unitOrder);
        edge("IV: the root of N (2 .. 10,000)", UnitEdgeTest::rootRange);
        edge("IV: N no square", UnitEdgeTest::rootSquare);
        edge("promise 22: the shortest and the longest PERIOD", UnitEdgeTest::periodLengths);
        edge("promise 23: QUOTIENT k (0 .. 1,000)", UnitEdgeTest::quotientRange);
        edge("promise 23: behind the PERIOD they come again", UnitEdgeTest::quotientRound);
        edge("promise 24: NEAR k (0 .. 1,000)", UnitEdgeTest::nearRange);
        edge("IV: BIG if its upper number is above 1,000,000,000,000,000,000", UnitEdgeTest::nearBig);
        edge("promise 24: 1, else 6", UnitEdgeTest::nearOrder);
        end();
    }

    private static void dueUnit(int d, long t, long u, int four) {
        acceptedOf(d, "unit(0)", x -> x.unit(0), t);
        acceptedOf(d, "unit(1)", x -> x.unit(1), u);
        acceptedOf(d, "unit(2)", x -> x.unit(2), four);
    }

    private static void unitLeast() {
        /* 1 - 5 and 9 - 5 both have u 1. */
        dueUnit(5, 1, 1, -4);
        dueUnit(8, 2, 1, -4);
        dueUnit(12, 4, 1, 4);
        dueUnit(13, 3, 1, -4);
        dueUnit(20, 4, 1, -4);
        dueUnit(21, 5, 1, 4);
        dueUnit(3997, 569, 9, 4);
        dueUnit(4000, 78_960_998, 1_248_483, 4);
    }

    private static void unitWhat() {
        for (int what : new int[] {-1, 3, MIN, MAX}) {
            refusedOf(5, "unit(" + what + ")", x -> x.unit(what), 1);
            refusedOf(4000, "unit(" + what + ")", x -> x.unit(what), 1);
        }
        dueUnit(61, 39, 5, -4);
    }

    private static void unitBig() {
        /* Of all D, these two have the t nearest to the bound on either side: the other is 1010728516472403880. */
        dueUnit(2297, 880_261_517_254_703_264L, 18_366_703_642_231_610L, -4);
        /* In 64 bits the t of 1177 looks like 517276234099399086; that of 3529 is the greatest of all. */
        for (int d : new int[] {2441, 2476, 3385, 1177, 3529}) {
            for (int what = 0; what < 3; what++) {
                int asked = what;
                refusedOf(d, "unit(" + what + ")", x -> x.unit(asked), 6);
            }
        }
    }

    private static void unitSign() {
        for (int d : new int[] {-3, -4, -4000}) {
            for (int what = 0; what < 3; what++) {
                int asked = what;
                refusedOf(d, "unit(" + what + ")", x -> x.unit(asked), 5);
            }
        }
        acceptedOf(5, "unit(0)", x -> x.unit(0), 1);
    }

    private static void unitOrder() {
        for (int what : new int[] {-1, 3, MIN, MAX}) {
            refusedOf(-4, "unit(" + what + "): 5 ahead of 1", x -> x.unit(what), 5);
            refusedOf(2441, "unit(" + what + "): 1 ahead of 6", x -> x.unit(what), 1);
        }
        refusedOf(2441, "unit(0): 6", x -> x.unit(0), 6);
    }

    private static void refusedRoot(int n) {
        refusedOf(-4, "period(" + n + ")", x -> x.period(n), 1);
        refusedOf(-4, "quotient(" + n + ", 0)", x -> x.quotient(n, 0), 1);
        refusedOf(5, "near(" + n + ", 0, false)", x -> x.near(n, 0, false), 1);
        refusedOf(5, "near(" + n + ", 0, true)", x -> x.near(n, 0, true), 1);
    }

    private static void acceptedRoot(int n, int period, int first, int second) {
        acceptedOf(-4, "period(" + n + ")", x -> x.period(n), period);
        acceptedOf(5, "quotient(" + n + ", 0)", x -> x.quotient(n, 0), first);
        acceptedOf(5, "quotient(" + n + ", 1)", x -> x.quotient(n, 1), second);
        acceptedOf(-4, "near(" + n + ", 0, false)", x -> x.near(n, 0, false), first);
        acceptedOf(-4, "near(" + n + ", 0, true)", x -> x.near(n, 0, true), 1);
    }

    private static void rootRange() {
        acceptedRoot(2, 1, 1, 2);
        acceptedRoot(3, 2, 1, 1);
        acceptedRoot(9998, 4, 99, 1);
        acceptedRoot(9999, 2, 99, 1);
        /* 10,000 is in range, but a square; 10,001 and 10,002 are none. */
        for (int n : new int[] {1, 0, -1, -2, -9999, 10_000, 10_001, 10_002, MAX, MIN, MIN + 2}) {
            refusedRoot(n);
        }
    }

    private static void rootSquare() {
        for (int side = 2; side <= 100; side++) {
            refusedRoot(side * side);
        }
        acceptedRoot(5, 1, 2, 4);
        acceptedRoot(8, 2, 2, 1);
        acceptedRoot(10, 1, 3, 6);
        acceptedRoot(9802, 1, 99, 198);
        acceptedRoot(9803, 2, 99, 99);
    }

    private static void periodLengths() {
        acceptedOf(-4, "period(2)", x -> x.period(2), 1);
        acceptedOf(-4, "period(9949)", x -> x.period(9949), 217);
    }

    private static void quotientRange() {
        for (int k : new int[] {-1, 1001, 1002, MIN, MAX}) {
            refusedOf(-4, "quotient(2, " + k + ")", x -> x.quotient(2, k), 1);
            refusedOf(5, "quotient(9999, " + k + ")", x -> x.quotient(9999, k), 1);
            refusedOf(5, "quotient(4, " + k + ")", x -> x.quotient(4, k), 1);
        }
        acceptedOf(-4, "quotient(2, 0)", x -> x.quotient(2, 0), 1);
        acceptedOf(-4, "quotient(2, 1000)", x -> x.quotient(2, 1000), 2);
        acceptedOf(-4, "quotient(9999, 999)", x -> x.quotient(9999, 999), 1);
        acceptedOf(-4, "quotient(9999, 1000)", x -> x.quotient(9999, 1000), 198);
    }

    private static void quotientRound() {
        RootForms x = new RootForms();
        due("period(9949)", x.period(9949), 217);
        accepted(x, "quotient(9949, 217)", x.quotient(9949, 217), 198);
        for (int k = 1; k <= 100; k++) {
            accepted(x, "quotient(9949, 217 + " + k + ")", x.quotient(9949, 217 + k), x.quotient(9949, k));
        }
    }

    private static void nearRange() {
        for (int k : new int[] {-1, 1001, 1002, MIN, MAX}) {
            refusedOf(-4, "near(2, " + k + ", false)", x -> x.near(2, k, false), 1);
            refusedOf(-4, "near(2, " + k + ", true)", x -> x.near(2, k, true), 1);
        }
        acceptedOf(-4, "near(2, 0, false)", x -> x.near(2, 0, false), 1);
        acceptedOf(-4, "near(2, 1, false)", x -> x.near(2, 1, false), 3);
        acceptedOf(-4, "near(2, 1, true)", x -> x.near(2, 1, true), 2);
        acceptedOf(-4, "near(9999, 0, false)", x -> x.near(9999, 0, false), 99);
        refusedOf(-4, "near(2, 1000, true)", x -> x.near(2, 1000, true), 6);
    }

    private static void nearLast(int n, int k, long upper, long lower) {
        acceptedOf(-4, "near(" + n + ", " + k + ", false)", x -> x.near(n, k, false), upper);
        acceptedOf(-4, "near(" + n + ", " + k + ", true)", x -> x.near(n, k, true), lower);
        refusedOf(-4, "near(" + n + ", " + (k + 1) + ", false)", x -> x.near(n, k + 1, false), 6);
        refusedOf(-4, "near(" + n + ", " + (k + 1) + ", true)", x -> x.near(n, k + 1, true), 6);
    }

    private static void nearBig() {
        /* Of all N, these two have the upper numbers nearest to the bound: behind 7002's it is 1000125714233899848. */
        nearLast(7292, 33, 999_726_079_524_609_890L, 11_707_325_454_287_201L);
        nearLast(7002, 34, 994_161_151_273_395_125L, 11_880_801_366_785_037L);
        nearLast(2, 46, 489_133_282_872_437_279L, 345_869_461_223_138_161L);
        nearLast(3, 62, 734_231_055_024_833_855L, 423_908_497_265_970_753L);
        /* The next one is 198 times as great. */
        nearLast(9999, 13, 6_398_880_055_999_300L, 63_992_000_239_999L);
        /* Whatever the numbers look like in 64 bits further on. */
        RootForms x = new RootForms();
        for (int k = 47; k <= 200; k++) {
            refused(x, "near(2, " + k + ", false)", x.near(2, k, false), 6);
        }
        refused(x, "near(2, 1000, false)", x.near(2, 1000, false), 6);
    }

    private static void nearOrder() {
        refusedOf(-4, "near(4, 1000, false): 1 ahead of 6", x -> x.near(4, 1000, false), 1);
        refusedOf(-4, "near(10001, 1000, true): 1 ahead of 6", x -> x.near(10_001, 1000, true), 1);
        refusedOf(-4, "near(2, 1001, false): 1 ahead of 6", x -> x.near(2, 1001, false), 1);
        refusedOf(-4, "near(2, 1000, false): 6", x -> x.near(2, 1000, false), 6);
    }
}
