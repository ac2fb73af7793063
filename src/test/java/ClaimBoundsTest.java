/** One test for each sentence about CLAIMS, and for what by(), ratio(), nearest(), name(), drop() refuse. */
public final class ClaimBoundsTest {
    private static final Checks C = new Checks("ClaimBoundsTest");

    public static void main(String[] args) {
        sixteen();
        toldNumbers();
        claimRefused();
        unclaimed();
        joining();
        longWays();
        against();
        overClaims();
        overOnTheWay();
        truths();
        overOfTrue();
        ringAnswers();
        bunches();
        claimOfRefused();
        byAnswers();
        dropped();
        found();
        unitAnswers();
        ratios();
        nearest();
        C.close();
    }

    private static void claims(UnitProver x, int... rows) {
        for (int i = 0; i + 3 < rows.length; i += 4) {
            int before = x.count(1);
            C.due("claim", x.claim(rows[i], rows[i + 1], rows[i + 2], rows[i + 3]), before + 1);
        }
    }

    private static void verdicts(UnitProver x, int... due) {
        for (int i = 0; i < due.length; i++) {
            C.due("claimOf(" + i + ", 4)", x.claimOf(i, 4), due[i]);
        }
    }

    private static void rings(UnitProver x, int against, int rings, int bunches) {
        C.due("rings(0)", x.rings(0), against);
        C.due("rings(1)", x.rings(1), rings);
        C.due("rings(3)", x.rings(3), bunches);
    }

    private static void sixteen() {
        C.says("CLAIMS 0, 1, .. (16 at most)");
        UnitProver x = new UnitProver();
        C.due("count(1)", x.count(1), 0);
        for (int i = 1; i <= 16; i++) {
            C.due("claim " + i, x.claim(i % 5, (i + 1) % 5, i, i + 1), i);
        }
        C.due("claim 17", x.claim(0, 1, 1, 1), -4);
        C.due("count(1)", x.count(1), 16);
        C.due("the last", x.claimOf(15, 2), 16);
        C.due("none behind it", x.claimOf(16, 2), -1);
        C.says("A CLAIM comes: how many there are. NONE: x, y (also the same); BAD: p, q; FULL.");
        C.due("BAD ahead of FULL", x.claim(0, 1, 0, 1), -2);
        C.due("NONE ahead of BAD", x.claim(0, 5, 0, 1), -1);
        C.due("unclaim(0)", x.unclaim(0), 15);
        C.due("claim 16 again", x.claim(0, 1, 1, 1), 16);
    }

    private static void toldNumbers() {
        C.says("1 of UNIT x is p by q of UNIT y (UNITS unlike, p, q 1 .. 999999), as they are told, right or not.");
        UnitProver x = Checks.stocked();
        claims(x, 0, 5, 1, 999999, 9, 10, 999999, 1, 2, 3, 4, 6, 11, 0, 999999, 999999);
        int[][] told = {{0, 5, 1, 999999}, {9, 10, 999999, 1}, {2, 3, 4, 6}, {11, 0, 999999, 999999}};
        for (int i = 0; i < told.length; i++) {
            for (int what = 0; what < 4; what++) {
                C.due("claimOf(" + i + ", " + what + ")", x.claimOf(i, what), told[i][what]);
            }
        }
    }

    private static void claimRefused() {
        C.says("NONE: x, y (also the same); BAD: p, q; FULL.");
        UnitProver x = new UnitProver();
        int[][] none = {{-1, 0, 1, 1}, {5, 0, 1, 1}, {0, -1, 1, 1}, {0, 5, 1, 1}, {0, 0, 1, 1}, {4, 4, 0, 0}, {5, 5, 1, 1}, {0, 5, 0, 0}};
        for (int[] n : none) {
            C.due("claim(" + n[0] + ", " + n[1] + ", " + n[2] + ", " + n[3] + ")", x.claim(n[0], n[1], n[2], n[3]), -1);
        }
        int[][] bad = {{0, 1}, {1, 0}, {-1, 1}, {1, -1}, {1000000, 1}, {1, 1000000}, {Integer.MIN_VALUE, 1}, {1, Integer.MAX_VALUE}};
        for (int[] b : bad) {
            C.due("claim(0, 1, " + b[0] + ", " + b[1] + ")", x.claim(0, 1, b[0], b[1]), -2);
        }
        C.due("count(1)", x.count(1), 0);
    }

    private static void unclaimed() {
        C.says("A CLAIM is none any more, those behind it have a number 1 less: how many there are. NONE.");
        UnitProver x = new UnitProver();
        C.due("unclaim(0)", x.unclaim(0), -1);
        claims(x, 0, 1, 2, 1, 1, 2, 3, 1, 0, 2, 6, 1, 3, 4, 5, 1);
        C.due("unclaim(-1)", x.unclaim(-1), -1);
        C.due("unclaim(4)", x.unclaim(4), -1);
        C.due("unclaim(1)", x.unclaim(1), 3);
        C.due("the one ahead", x.claimOf(0, 2), 2);
        C.due("the one behind", x.claimOf(1, 2), 6);
        C.due("the one behind that", x.claimOf(2, 2), 5);
        C.due("none", x.claimOf(3, 2), -1);
        C.due("unclaim(2), the last", x.unclaim(2), 2);
        C.due("unclaim(2)", x.unclaim(2), -1);
        C.due("unclaim(0)", x.unclaim(0), 1);
        C.due("unclaim(0)", x.unclaim(0), 0);
        C.due("unclaim(0)", x.unclaim(0), -1);
        rings(x, 0, 0, 5);
    }

    private static void joining() {
        C.says("From the first CLAIM on: one JOINS, if by those ahead that JOIN x and y do not hang together (by any number of them, from either side).");
        UnitProver x = Checks.stocked();
        claims(x, 0, 1, 2, 1, 0, 1, 3, 1, 1, 0, 1, 2);
        verdicts(x, 0, 1, 0);
        rings(x, 1, 1, 11);
        // from either side, and by three of them
        claims(x, 2, 1, 1, 3, 2, 3, 1, 5, 0, 3, 6, 5, 3, 0, 5, 6, 3, 0, 6, 5);
        verdicts(x, 0, 1, 0, 0, 0, 0, 0, 1);
        rings(x, 2, 3, 9);
        C.pair("by(0, 3)", x.by(0, 3, 0), x.by(0, 3, 1), 6, 5);
        // without the first one the second JOINS, and is what the others are told by
        x.unclaim(0);
        verdicts(x, 0, 1, 0, 0, 1, 1, 1);
        C.pair("by(0, 3)", x.by(0, 3, 0), x.by(0, 3, 1), 9, 5);
        rings(x, 4, 0, 9);
    }

    private static UnitProver twenty() {
        UnitProver x = new UnitProver();
        for (int i = 5; i < 20; i++) {
            Checks.define(x, "u" + (char) ('a' + i) + "=1m");
        }
        return x;
    }

    private static void longWays() {
        C.says("the one way there is by CLAIMS that JOIN from x to y");
        UnitProver x = twenty();
        for (int i = 0; i < 16; i++) {
            claims(x, i, i + 1, 2, 1);
        }
        C.pair("by(0, 16)", x.by(0, 16, 0), x.by(0, 16, 1), 65536, 1);
        C.pair("by(16, 0)", x.by(16, 0, 0), x.by(16, 0, 1), 1, 65536);
        C.pair("by(3, 9)", x.by(3, 9, 0), x.by(3, 9, 1), 64, 1);
        rings(x, 0, 0, 4);
        UnitProver y = twenty();
        for (int i = 14; i >= 0; i--) {
            claims(y, i + 4, i + 5, 1, 3);
        }
        claims(y, 19, 4, 14348907 % 1000000, 1);
        C.pair("by(4, 19)", y.by(4, 19, 0), y.by(4, 19, 1), 1, 14348907);
        C.pair("by(19, 4)", y.by(19, 4, 0), y.by(19, 4, 1), 14348907, 1);
        verdicts(y, 0, 0, 0, 0, 0, 0, 0, 0, 0, 0, 0, 0, 0, 0, 0, 1);
        rings(y, 1, 0, 5);
    }

    private static void against() {
        C.says("it is AGAINST, if that is not p by q;");
        UnitProver x = new UnitProver();
        claims(x, 0, 1, 4, 6, 1, 2, 3, 1, 0, 2, 2, 1, 0, 2, 4, 2, 0, 2, 1, 2, 2, 0, 1, 2, 2, 0, 2, 1, 0, 1, 2, 3, 1, 0, 6, 4, 1, 0, 4, 6);
        verdicts(x, 0, 0, 0, 0, 1, 0, 1, 0, 0, 1);
        rings(x, 3, 5, 3);
    }

    private static void overClaims() {
        C.says("OVER, if a product is (then it is not AGAINST).");
        UnitProver x = new UnitProver();
        claims(x, 0, 1, 999999, 1, 1, 2, 999999, 1, 2, 3, 999999, 1, 3, 4, 9, 1);
        claims(x, 0, 4, 1, 1);
        verdicts(x, 0, 0, 0, 0, 1);
        x.unclaim(4);
        x.unclaim(3);
        claims(x, 3, 4, 10, 1, 0, 4, 1, 1, 4, 0, 1, 1, 0, 3, 1, 1);
        verdicts(x, 0, 0, 0, 0, -15, -15, 1);
        C.says("1 RINGS (0, 1: -15, if a CLAIM is OVER)");
        rings(x, -15, -15, 1);
        x.unclaim(4);
        rings(x, -15, -15, 1);
        x.unclaim(4);
        rings(x, 1, 0, 1);
        C.due("rings(2)", x.rings(2), 0);
    }

    private static void overOnTheWay() {
        C.says("from 1 on, each product by the rule of FRACTIONS, one CLAIM behind the other (turned over, where it is gone from its y to its x)");
        UnitProver x = Checks.stocked();
        claims(x, 0, 1, 999999, 1, 1, 2, 999999, 1, 2, 3, 999999, 1, 4, 3, 1, 999999, 4, 5, 1, 999999);
        C.no("OVER on its way", x.by(0, 5, 0));
        C.pair("not on its way back", x.by(5, 0, 0), x.by(5, 0, 1), 1, 999999L * 999999L * 999999L);
        claims(x, 0, 5, 1, 1);
        verdicts(x, 0, 0, 0, 0, 0, -15);
        UnitProver y = Checks.stocked();
        claims(y, 0, 1, 999999, 1, 1, 2, 999999, 1, 2, 3, 999999, 1, 4, 3, 999999, 1, 4, 5, 999999, 1);
        long cube = 999999L * 999999L * 999999L;
        C.pair("by(0, 5)", y.by(0, 5, 0), y.by(0, 5, 1), cube, 1);
        C.pair("by(5, 0)", y.by(5, 0, 0), y.by(5, 0, 1), 1, cube);
    }

    private static void truths() {
        C.says("TRUE: by the UNITS themselves (DIMENSIONS are the same, no OFFSETS, FACTOR of x is p by q of that of y).");
        UnitProver x = Checks.stocked();
        Checks.define(x, "kk=1k");
        int[][] told = {{7, 6, 12, 1}, {6, 7, 1, 12}, {7, 6, 120, 10}, {7, 6, 1, 12}, {0, 1, 1, 1}, {3, 12, 1, 1}, {9, 3, 1, 1}, {12, 9, 1, 1}, {9, 10, 9, 5}};
        int[] truths = {1, 1, 1, 0, 0, 1, 0, 0, 0};
        int sum = 0;
        for (int i = 0; i < told.length; i++) {
            claims(x, told[i]);
            C.due("claimOf(" + i + ", 5)", x.claimOf(i, 5), truths[i]);
            sum += truths[i];
            C.due("rings(2)", x.rings(2), sum);
        }
        UnitProver y = Checks.stocked();
        for (int i = 1; i <= 16; i++) {
            claims(y, 7, 6, 12 * i, i);
            C.due("rings(2) of " + i, y.rings(2), i);
        }
        for (int i = 15; i >= 0; i--) {
            C.due("unclaim(" + i + ")", y.unclaim(i), i);
            C.due("rings(2) without the last one", y.rings(2), i);
        }
    }

    private static void overOfTrue() {
        C.says("(OVER of TRUE: FACTOR of y times p by q is.)");
        UnitProver x = new UnitProver();
        Checks.define(x, "b=999999m");
        Checks.define(x, "c=999999b");
        Checks.define(x, "d=999999c");
        claims(x, 0, 7, 9, 1, 0, 7, 10, 1, 7, 0, 10, 1);
        C.due("near to it", x.claimOf(0, 5), 0);
        C.due("OVER", x.claimOf(1, 5), -15);
        C.due("the other way", x.claimOf(2, 5), 0);
        C.says("2 how many are TRUE (-15, if that is OVER of one)");
        C.due("rings(2)", x.rings(2), -15);
        C.due("rings(0)", x.rings(0), 2);
        x.unclaim(1);
        C.due("rings(2)", x.rings(2), 0);
        claims(x, 7, 6, 999999, 1);
        C.due("rings(2)", x.rings(2), 1);
        claims(x, 1, 7, 10, 1);
        C.due("of another DIMENSION", x.claimOf(3, 5), 0);
        claims(x, 0, 7, 10, 1);
        C.due("rings(2) with one that is TRUE", x.rings(2), -15);
        claims(x, 0, 7, 11, 1);
        C.due("rings(2) with two that are OVER", x.rings(2), -15);
    }

    private static void ringAnswers() {
        C.says("RINGS: how many CLAIMS neither JOIN nor are AGAINST nor OVER.");
        UnitProver x = new UnitProver();
        rings(x, 0, 0, 5);
        claims(x, 0, 1, 1, 2);
        rings(x, 0, 0, 4);
        claims(x, 1, 0, 2, 1);
        rings(x, 0, 1, 4);
        claims(x, 1, 0, 1, 1);
        rings(x, 1, 1, 4);
        C.says("NONE: what.");
        C.due("rings(-1)", x.rings(-1), -1);
        C.due("rings(4)", x.rings(4), -1);
    }

    private static void bunches() {
        C.says("3 how many bunches of UNITS hang together by CLAIMS that JOIN (a UNIT alone is one).");
        UnitProver x = new UnitProver();
        C.due("rings(3)", x.rings(3), 5);
        claims(x, 0, 1, 1, 1, 2, 3, 1, 1);
        C.due("rings(3)", x.rings(3), 3);
        claims(x, 3, 1, 1, 1, 0, 2, 1, 1);
        C.due("rings(3)", x.rings(3), 2);
        Checks.define(x, "b=1m");
        C.due("rings(3)", x.rings(3), 3);
        claims(x, 4, 5, 1, 1, 5, 0, 1, 1);
        C.due("rings(3)", x.rings(3), 1);
        x.drop();
        C.due("rings(3)", x.rings(3), 2);
    }

    private static void claimOfRefused() {
        C.says("Of a CLAIM what 0 x, 1 y, 2 p, 3 q, 4 whether it is AGAINST (1, 0; -15), 5 whether it is TRUE (1, 0; -15). NONE.");
        UnitProver x = new UnitProver();
        C.due("claimOf(0, 0)", x.claimOf(0, 0), -1);
        claims(x, 3, 2, 7, 8);
        int[] due = {3, 2, 7, 8, 0, 0};
        for (int what = 0; what < 6; what++) {
            C.due("claimOf(0, " + what + ")", x.claimOf(0, what), due[what]);
        }
        C.due("claimOf(0, -1)", x.claimOf(0, -1), -1);
        C.due("claimOf(0, 6)", x.claimOf(0, 6), -1);
        C.due("claimOf(-1, 0)", x.claimOf(-1, 0), -1);
        C.due("claimOf(1, 0)", x.claimOf(1, 0), -1);
    }

    private static void byAnswers() {
        C.says("By CLAIMS that JOIN, the way as told: how much of UNIT y 1 of UNIT x is (1, if they are the same). NO: units, part, they don't hang together, OVER.");
        UnitProver x = new UnitProver();
        C.pair("by(4, 4)", x.by(4, 4, 0), x.by(4, 4, 1), 1, 1);
        C.no("by(0, 1)", x.by(0, 1, 0));
        claims(x, 0, 1, 4, 6, 2, 1, 1, 2, 0, 2, 9, 9);
        C.pair("by(0, 1)", x.by(0, 1, 0), x.by(0, 1, 1), 2, 3);
        C.pair("by(1, 0)", x.by(1, 0, 0), x.by(1, 0, 1), 3, 2);
        C.pair("not by one that is AGAINST", x.by(0, 2, 0), x.by(0, 2, 1), 4, 3);
        C.no("by(0, 3)", x.by(0, 3, 0));
        C.no("by(3, 0)", x.by(3, 0, 0));
        C.no("by(-1, 0)", x.by(-1, 0, 0));
        C.no("by(0, -1)", x.by(0, -1, 0));
        C.no("by(-1, -1)", x.by(-1, -1, 0));
        C.no("by(5, 5)", x.by(5, 5, 0));
        C.no("by(0, 5)", x.by(0, 5, 0));
        C.no("by(5, 0)", x.by(5, 0, 0));
        C.no("part -1", x.by(0, 1, -1));
        C.no("part 2", x.by(0, 1, 2));
        C.no("part 2 of the same", x.by(0, 0, 2));
    }

    private static void dropped() {
        C.says("The latest UNIT is none any more (0 .. 4 never; nor CLAIMS of it, those behind them have numbers less): how many there are. STATE: there are five.");
        UnitProver x = new UnitProver();
        C.due("drop()", x.drop(), -3);
        Checks.define(x, "b=2m");
        Checks.define(x, "c=3m");
        claims(x, 6, 0, 1, 1, 1, 2, 3, 4, 5, 6, 1, 1, 2, 3, 5, 6, 0, 6, 1, 1, 5, 0, 7, 8);
        C.due("drop()", x.drop(), 6);
        C.due("count(1)", x.count(1), 3);
        C.due("numbers less", x.claimOf(0, 2), 3);
        C.due("numbers less", x.claimOf(1, 2), 5);
        C.due("numbers less", x.claimOf(2, 2), 7);
        C.due("no such UNIT", x.name(6, -1), -1);
        C.due("drop()", x.drop(), 5);
        C.due("count(1)", x.count(1), 2);
        C.due("drop()", x.drop(), -3);
        C.due("count(0)", x.count(0), 5);
        C.defined(x, "b=5s", 5);
        C.due("its own FACTOR", x.scale(5, 0, 0), 5);
        C.due("its own DIMENSION", x.power(5, 0), 10);
        UnitProver y = new UnitProver();
        Checks.define(y, "b=2m");
        claims(y, 0, 5, 1, 1, 5, 1, 1, 1, 0, 1, 2, 1, 1, 0, 1, 2);
        verdicts(y, 0, 0, 1, 1);
        rings(y, 2, 0, 4);
        C.due("drop()", y.drop(), 5);
        verdicts(y, 0, 0);
        rings(y, 0, 1, 4);
        C.pair("the other ones JOIN then", y.by(0, 1, 0), y.by(0, 1, 1), 2, 1);
    }

    private static void found() {
        C.says("THE TAPE is a NAME: the number of its UNIT. NOT: there is none (nor where it is no NAME).");
        UnitProver x = Checks.stocked();
        C.due("m", Checks.find(x, "m"), 0);
        C.due("n", Checks.find(x, "n"), 11);
        for (String text : new String[] {"", "zz", "i", "inn", "cm1", "1cm", "cmcm", "cmcmc", "CM", "cm ", "cm=1m", "1"}) {
            C.due("find() of '" + text + "'", Checks.find(x, text), -5);
            C.due("count(2)", x.count(2), 0);
        }
        x.drop();
        C.due("n", Checks.find(x, "n"), -5);
    }

    private static void unitAnswers() {
        C.says("Letter i of a UNIT's NAME (i -1: how many). NONE.");
        UnitProver x = Checks.stocked();
        C.due("name(5, -1)", x.name(5, -1), 2);
        C.due("name(5, 1)", x.name(5, 1), 'm');
        int[][] noName = {{5, -2}, {5, 2}, {-1, 0}, {12, 0}, {-1, -1}, {12, -1}};
        for (int[] n : noName) {
            C.due("name(" + n[0] + ", " + n[1] + ")", x.name(n[0], n[1]), -1);
        }
        C.says("POWER of a BASE in a UNIT and 10. NONE.");
        C.due("power(11, 2)", x.power(11, 2), 8);
        C.due("power(11, 4)", x.power(11, 4), 10);
        int[][] noPower = {{11, -1}, {11, 5}, {-1, 0}, {12, 0}};
        for (int[] n : noPower) {
            C.due("power(" + n[0] + ", " + n[1] + ")", x.power(n[0], n[1]), -1);
        }
        C.says("FACTOR (what 0), OFFSET (1) of a UNIT. NO: unit, what, part.");
        C.pair("FACTOR", x.scale(10, 0, 0), x.scale(10, 0, 1), 5, 9);
        C.pair("OFFSET", x.scale(10, 1, 0), x.scale(10, 1, 1), 45967, 180);
        int[][] noScale = {{-1, 0, 0}, {12, 0, 0}, {10, -1, 0}, {10, 2, 0}, {10, 0, -1}, {10, 0, 2}, {10, 1, -1}, {10, 1, 2}};
        for (int[] n : noScale) {
            C.no("scale(" + n[0] + ", " + n[1] + ", " + n[2] + ")", x.scale(n[0], n[1], n[2]));
        }
    }

    private static void ratios() {
        C.says("How often UNIT x goes into UNIT y: FACTOR of y by FACTOR of x. NO: units, part; DIMENSIONS aren't the same, one has an OFFSET, OVER.");
        UnitProver x = Checks.stocked();
        C.pair("ratio(6, 7)", x.ratio(6, 7, 0), x.ratio(6, 7, 1), 12, 1);
        C.pair("ratio(7, 6)", x.ratio(7, 6, 0), x.ratio(7, 6, 1), 1, 12);
        C.pair("ratio(11, 11)", x.ratio(11, 11, 0), x.ratio(11, 11, 1), 1, 1);
        int[][] no = {{-1, 0, 0}, {0, -1, 0}, {12, 0, 0}, {0, 12, 0}, {6, 7, -1}, {6, 7, 2}, {0, 1, 0}, {0, 11, 0}, {9, 3, 0}, {3, 9, 0}, {9, 9, 0}, {9, 10, 0}};
        for (int[] n : no) {
            C.no("ratio(" + n[0] + ", " + n[1] + ", " + n[2] + ")", x.ratio(n[0], n[1], n[2]));
        }
        UnitProver y = new UnitProver();
        Checks.define(y, "b=999999m");
        Checks.define(y, "c=999999b");
        Checks.define(y, "d=999999c");
        Checks.define(y, "e=1/9m");
        Checks.define(y, "f=1/10m");
        C.pair("near to it", y.ratio(8, 7, 0), y.ratio(8, 7, 1), 9L * 999999L * 999999L * 999999L, 1);
        C.pair("near to it", y.ratio(7, 8, 0), y.ratio(7, 8, 1), 1, 9L * 999999L * 999999L * 999999L);
        C.no("OVER", y.ratio(9, 7, 0));
        C.no("OVER below", y.ratio(7, 9, 0));
    }

    private static void nearest() {
        C.says("Of all UNITS of the same DIMENSION as UNIT x (x itself, those with an OFFSET, too) whose FACTOR is p by q of that of x, or less, that of the greatest FACTOR (of several the least number).");
        UnitProver x = Checks.stocked();
        C.due("x itself", x.nearest(7, 1, 1), 7);
        C.due("p by q of it", x.nearest(7, 3, 1), 8);
        C.due("a little less", x.nearest(7, 299, 100), 7);
        C.due("another one", x.nearest(7, 1, 12), 6);
        C.due("the greatest", x.nearest(7, 999999, 1), 0);
        C.due("with an OFFSET", x.nearest(3, 5, 9), 10);
        C.due("the least number", x.nearest(9, 1, 1), 3);
        C.due("alone", x.nearest(11, 1, 1), 11);
        C.says("NONE: x; BAD: p, q (1 .. 999999); NOT: there is none, OVER.");
        C.due("NONE", x.nearest(-1, 0, 0), -1);
        C.due("NONE", x.nearest(12, 1, 1), -1);
        for (int[] b : new int[][] {{0, 1}, {1, 0}, {-1, 1}, {1, -1}, {1000000, 1}, {1, 1000000}, {0, 0}}) {
            C.due("nearest(0, " + b[0] + ", " + b[1] + ")", x.nearest(0, b[0], b[1]), -2);
        }
        C.due("999999 by 999999", x.nearest(0, 999999, 999999), 0);
        C.due("NOT: none", x.nearest(5, 99, 100), -5);
        unevenFactors();
        nearestOfNoMore();
        C.due("NOT: none", x.nearest(11, 999998, 999999), -5);
        UnitProver y = new UnitProver();
        Checks.define(y, "b=999999m");
        Checks.define(y, "c=999999b");
        Checks.define(y, "d=999999c");
        Checks.define(y, "e=1/7d");
        C.due("near to it", y.nearest(7, 9, 1), 7);
        C.due("NOT: OVER", y.nearest(7, 10, 1), -5);
        C.due("reduced first", y.nearest(8, 14, 1), 7);
    }

    private static void nearestOfNoMore() {
        UnitProver x = Checks.stocked();
        x.image();
        C.defined(x, "twy=2yd", 12);
        C.due("nearest(8, 2, 1)", x.nearest(8, 2, 1), 12);
        C.due("drop()", x.drop(), 12);
        C.due("without it", x.nearest(8, 2, 1), 0);
        C.defined(x, "thy=3yd", 12);
        C.due("nearest(8, 3, 1)", x.nearest(8, 3, 1), 12);
        C.due("undo()", x.undo(), 12);
        C.due("without it", x.nearest(8, 3, 1), 0);
    }

    /** FACTORS whose whole parts are the same, and some that lie nearer than longs' products could tell. */
    private static void unevenFactors() {
        UnitProver x = new UnitProver();
        Checks.define(x, "b=3/2m");
        Checks.define(x, "c=4/3m");
        Checks.define(x, "d=2/3m");
        C.due("1 is less than 3 by 2", x.nearest(5, 1, 1), 5);
        C.due("3 by 2 is not less than 4 by 3", x.nearest(6, 1, 1), 6);
        C.due("nor than 1", x.nearest(0, 1, 1), 0);
        C.due("2 by 3", x.nearest(7, 1, 1), 7);
        C.due("none less", x.nearest(7, 999998, 999999), -5);
        UnitProver y = new UnitProver();
        Checks.define(y, "b=999999/999998m");
        Checks.define(y, "c=999999/999998b");
        Checks.define(y, "d=999999/999998c");
        Checks.define(y, "e=999998/999997m");
        Checks.define(y, "f=999998/999997e");
        Checks.define(y, "h=999998/999997f");
        for (int i = 5; i < 11; i++) {
            C.due("nearest(" + i + ", 1, 1)", y.nearest(i, 1, 1), i);
        }
        C.due("nearest(0, 999999, 999998)", y.nearest(0, 999999, 999998), 5);
        C.due("nearest(0, 999998, 999997)", y.nearest(0, 999998, 999997), 8);
    }
}
