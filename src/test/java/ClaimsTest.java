/** Promises 19 to 23: claims, what they are AGAINST, and the ways by them. */
public final class ClaimsTest {
    private static final Checks C = new Checks("ClaimsTest");

    public static void main(String[] args) {
        claim();
        unclaim();
        verdicts();
        truths();
        over();
        orderOfTheWay();
        ways();
        C.close();
    }

    private static void rings(UnitProver x, int against, int rings, int truths, int bunches) {
        C.due("rings(0)", x.rings(0), against);
        C.due("rings(1)", x.rings(1), rings);
        C.due("rings(2)", x.rings(2), truths);
        C.due("rings(3)", x.rings(3), bunches);
    }

    private static void claim() {
        UnitProver x = new UnitProver();
        C.due("x is none", x.claim(5, 0, 1, 1), -1);
        C.due("x is none", x.claim(-1, 0, 1, 1), -1);
        C.due("y is none", x.claim(0, 5, 1, 1), -1);
        C.due("the same", x.claim(2, 2, 0, 0), -1);
        C.due("p 0", x.claim(0, 1, 0, 1), -2);
        C.due("q 0", x.claim(0, 1, 1, 0), -2);
        C.due("p beyond", x.claim(0, 1, 1000000, 1), -2);
        C.due("q beyond", x.claim(0, 1, 1, 1000000), -2);
        C.due("p below 0", x.claim(0, 1, -1, 1), -2);
        for (int i = 1; i <= 16; i++) {
            C.due("claim " + i, x.claim(0, 1, 999999, 2 * i), i);
        }
        C.due("FULL", x.claim(0, 1, 1, 1), -4);
        C.due("BAD ahead of FULL", x.claim(0, 1, 0, 1), -2);
        C.due("as it is told", x.claimOf(0, 3), 2);
        C.due("as it is told", x.claimOf(2, 2), 999999);
        C.due("as it is told", x.claimOf(2, 3), 6);
        C.due("claimOf(16, 0)", x.claimOf(16, 0), -1);
        C.due("claimOf(-1, 0)", x.claimOf(-1, 0), -1);
        C.due("claimOf(0, -1)", x.claimOf(0, -1), -1);
        C.due("claimOf(0, 6)", x.claimOf(0, 6), -1);
        C.due("rings(-1)", x.rings(-1), -1);
        C.due("rings(4)", x.rings(4), -1);
        rings(x, 15, 0, 0, 4);
    }

    private static void unclaim() {
        UnitProver x = new UnitProver();
        C.due("unclaim(0) of none", x.unclaim(0), -1);
        x.claim(0, 1, 2, 1);
        x.claim(1, 2, 3, 1);
        x.claim(0, 2, 7, 1);
        x.claim(3, 4, 1, 5);
        rings(x, 1, 0, 0, 2);
        C.due("unclaim(-1)", x.unclaim(-1), -1);
        C.due("unclaim(4)", x.unclaim(4), -1);
        C.due("unclaim(0)", x.unclaim(0), 3);
        C.due("a number less", x.claimOf(1, 2), 7);
        rings(x, 0, 0, 0, 2);
        C.pair("by()", x.by(0, 1, 0), x.by(0, 1, 1), 7, 3);
        C.due("unclaim(2)", x.unclaim(2), 2);
        C.due("by() without", x.by(3, 4, 0), Checks.NO);
        rings(x, 0, 0, 0, 3);
    }

    private static void verdicts() {
        UnitProver x = new UnitProver();
        rings(x, 0, 0, 0, 5);
        x.claim(0, 1, 4, 2);
        x.claim(2, 1, 6, 2);
        x.claim(0, 2, 2, 3);
        x.claim(2, 0, 3, 2);
        x.claim(2, 0, 2, 3);
        x.claim(1, 0, 2, 4);
        x.claim(0, 1, 2, 1);
        x.claim(0, 1, 1, 2);
        int[] against = {0, 0, 0, 0, 1, 0, 0, 1};
        for (int i = 0; i < against.length; i++) {
            C.due("claimOf(" + i + ", 4)", x.claimOf(i, 4), against[i]);
        }
        rings(x, 2, 4, 0, 3);
    }

    private static void truths() {
        UnitProver x = Checks.stocked();
        int[][] told = {{7, 6, 12, 1}, {6, 7, 1, 12}, {7, 6, 24, 2}, {7, 6, 13, 1}, {9, 3, 1, 1}, {3, 9, 1, 1}, {10, 9, 5, 9},
            {0, 1, 1, 1}, {0, 8, 1250, 1143}};
        int[] truths = {1, 1, 1, 0, 0, 0, 0, 0, 1};
        for (int i = 0; i < told.length; i++) {
            x.claim(told[i][0], told[i][1], told[i][2], told[i][3]);
            C.due("claimOf(" + i + ", 5)", x.claimOf(i, 5), truths[i]);
        }
        C.due("rings(2)", x.rings(2), 4);
        Checks.define(x, "big=999999m");
        Checks.define(x, "hug=999999big");
        Checks.define(x, "vast=999999hug");
        x.claim(13, 14, 1, 999999);
        C.due("TRUE", x.claimOf(9, 5), 1);
        x.claim(13, 14, 10, 1);
        C.due("OVER", x.claimOf(10, 5), -15);
        C.due("rings(2)", x.rings(2), -15);
        C.due("rings(0) is not", x.rings(0), 2);
        x.unclaim(10);
        x.claim(13, 14, 10, 2);
        C.due("not OVER", x.claimOf(10, 5), 0);
        C.due("rings(2)", x.rings(2), 5);
    }

    private static void over() {
        UnitProver x = new UnitProver();
        x.claim(0, 1, 999999, 1);
        x.claim(1, 2, 999999, 1);
        x.claim(2, 3, 999999, 1);
        x.claim(3, 4, 10, 1);
        C.due("by() near to it", x.by(0, 3, 0), 999999L * 999999L * 999999L);
        C.due("by() OVER", x.by(0, 4, 0), Checks.NO);
        C.due("by() OVER below", x.by(4, 0, 1), Checks.NO);
        rings(x, 0, 0, 0, 1);
        x.claim(4, 0, 1, 1);
        C.due("claimOf(4, 4)", x.claimOf(4, 4), -15);
        rings(x, -15, -15, 0, 1);
        x.claim(0, 1, 1, 1);
        C.due("claimOf(5, 4)", x.claimOf(5, 4), 1);
        rings(x, -15, -15, 0, 1);
        x.unclaim(4);
        rings(x, 1, 0, 0, 1);
        x.unclaim(3);
        x.claim(4, 3, 1, 9);
        C.due("by() of 9", x.by(0, 4, 0), 999999L * 999999L * 999999L * 9L);
    }

    /** Products go one behind the other from x on, so it matters where a great one is made less again. */
    private static void orderOfTheWay() {
        UnitProver x = Checks.stocked();
        x.claim(0, 1, 999999, 1);
        x.claim(1, 2, 999999, 1);
        x.claim(2, 3, 999999, 1);
        x.claim(3, 4, 999999, 1);
        x.claim(4, 5, 1, 999999);
        C.due("by() OVER on its way", x.by(0, 5, 0), Checks.NO);
        x.unclaim(4);
        x.unclaim(3);
        x.claim(3, 4, 1, 999999);
        x.claim(4, 5, 999999, 1);
        C.due("by() not OVER on its way", x.by(0, 5, 0), 999999L * 999999L * 999999L);
        C.due("nor back", x.by(5, 0, 1), 999999L * 999999L * 999999L);
    }

    private static void ways() {
        UnitProver x = Checks.stocked();
        x.claim(5, 6, 2, 1);
        x.claim(8, 7, 3, 1);
        x.claim(7, 6, 5, 1);
        x.claim(9, 10, 1, 1);
        x.claim(8, 5, 1, 1);
        C.pair("by(8, 5)", x.by(8, 5, 0), x.by(8, 5, 1), 15, 2);
        C.pair("by(5, 8)", x.by(5, 8, 0), x.by(5, 8, 1), 2, 15);
        C.pair("by(6, 6)", x.by(6, 6, 0), x.by(6, 6, 1), 1, 1);
        C.pair("by(0, 0)", x.by(0, 0, 0), x.by(0, 0, 1), 1, 1);
        C.due("by(8, 9)", x.by(8, 9, 0), Checks.NO);
        C.due("by(12, 12)", x.by(12, 12, 0), Checks.NO);
        C.due("by(-1, 0)", x.by(-1, 0, 0), Checks.NO);
        C.due("by(0, 12)", x.by(0, 12, 0), Checks.NO);
        C.due("by(5, 8, 2)", x.by(5, 8, 2), Checks.NO);
        C.due("by(5, 5, -1)", x.by(5, 5, -1), Checks.NO);
        rings(x, 1, 0, 1, 8);
    }
}
