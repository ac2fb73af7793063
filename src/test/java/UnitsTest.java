/** Promises 1 to 10: a new object, THE TAPE, definitions, and what UNITS are. */
public final class UnitsTest {
    private static final Checks C = new Checks("UnitsTest");

    public static void main(String[] args) {
        newObject();
        feed();
        defineFaults();
        defineRefusals();
        defineOrder();
        defineWorth();
        defineLimits();
        drop();
        find();
        nameAndPower();
        scale();
        ratio();
        nearest();
        C.close();
    }

    private static void newObject() {
        UnitProver x = new UnitProver();
        C.due("count(0)", x.count(0), 5);
        for (int i = 0; i < 5; i++) {
            C.due("name(" + i + ", -1)", x.name(i, -1), 1);
            C.due("name(" + i + ", 0)", x.name(i, 0), "mgska".charAt(i));
            for (int base = 0; base < 5; base++) {
                C.due("power(" + i + ", " + base + ")", x.power(i, base), base == i ? 11 : 10);
            }
            C.pair("FACTOR", x.scale(i, 0, 0), x.scale(i, 0, 1), 1, 1);
            C.pair("OFFSET", x.scale(i, 1, 0), x.scale(i, 1, 1), 0, 1);
        }
        C.due("name(5, -1)", x.name(5, -1), -1);
    }

    private static void feed() {
        UnitProver x = new UnitProver();
        int[] bad = {0, -1, 128, 256 + 97, Integer.MIN_VALUE, Integer.MAX_VALUE};
        for (int letter : bad) {
            C.due("feed(" + letter + ")", x.feed(letter), -2);
        }
        C.due("feed(1)", x.feed(1), 1);
        C.due("feed(127)", x.feed(127), 2);
        for (int i = 3; i <= 60; i++) {
            C.due("feed(97)", x.feed(97), i);
        }
        C.due("feed on a full TAPE", x.feed(97), -4);
        C.due("a wrong byte on a full TAPE", x.feed(0), -2);
        C.due("count(2)", x.count(2), 60);
        C.due("define() reads it", x.define(), -100);
        C.due("and it is empty", x.count(2), 0);
    }

    private static void defineFaults() {
        UnitProver x = new UnitProver();
        String[] texts = {"", "x", "xabcd", "1", "X=1m", "x1", "x=", "x=m", "x=1", "x=1234567m", "x=123456", "x=1/", "x=1/m",
            "x=1/1234567m", "x=1/2", "x=1m0", "x=1m5", "x=1m22", "x=1abcde", "x=1m*", "x=1m*2", "x=1m**m", "x=1m m",
            "x=1m/1/2", "x=1m+", "x=1m+m", "x=1m+1/", "x=1m+1/2m", "x=1m+1234567", "x=1m+1+1", "x=1m-", "x=1m-1/1234567", "x=1.5m",
            "x=1m+-1", "x=1m-+1", "x=1m--1", "x=1m++1", "x=1m*/m", "x=1m+*1", "x=1//2m", "x=1m=", "=1m", "x==1m", "x=-1m", "x=1m+1.5", "x=1m2*g4/s1"};
        int[] faults = {0, 1, 4, 0, 0, 1, 2, 2, 3, 8, 8, 4, 4, 10, 5, 4, 4, 5, 7, 5, 5, 5, 4,
            5, 5, 5, 7, 8, 11, 6, 5, 13, 3, 5, 5, 5, 5, 5, 5, 4, 4, 0, 2, 2, 6, -1};
        for (int i = 0; i < texts.length; i++) {
            C.defined(x, texts[i], faults[i] < 0 ? 5 : -100 - faults[i]);
            C.due("THE TAPE is empty", x.count(2), 0);
        }
        C.due("no FAULT made a UNIT", x.count(0), 6);
    }

    private static void defineRefusals() {
        UnitProver x = Checks.stocked();
        C.defined(x, "x=1y", UnitProver.UNKNOWN);
        C.defined(x, "x=1m*y", UnitProver.UNKNOWN);
        C.defined(x, "x=1x", UnitProver.UNKNOWN);
        C.defined(x, "x=0m", UnitProver.NOUGHT);
        C.defined(x, "x=0/5m", UnitProver.NOUGHT);
        C.defined(x, "x=1/0m", UnitProver.NOUGHT);
        C.defined(x, "x=1m+1/0", UnitProver.NOUGHT);
        C.defined(x, "x=1m-0/000", UnitProver.NOUGHT);
        C.defined(x, "x=1c", UnitProver.SHIFTED);
        C.defined(x, "x=1m/c", UnitProver.SHIFTED);
        C.defined(x, "x=1c+1", UnitProver.SHIFTED);
        C.defined(x, "cm=1m", UnitProver.TWICE);
        C.defined(x, "x=1m*g+1", UnitProver.BAD);
        C.defined(x, "x=1m2+0", UnitProver.BAD);
        C.defined(x, "x=1m4*m4*m2", UnitProver.WIDE);
        C.defined(x, "x=1/m4/m4/m2", -104);
        C.defined(x, "x=1s/m4/m4/m2", UnitProver.WIDE);
        C.due("count(0)", x.count(0), 12);
        C.defined(x, "x=1m4*m4*m", 12);
        C.due("power(12, 0)", x.power(12, 0), 19);
        C.defined(x, "y=1m4*m4*m4/m3", 13);
        C.due("DIMENSION counts at the end alone", x.power(13, 0), 19);
        C.defined(x, "z=1s/m4/m4/m", 14);
        C.due("power(14, 0)", x.power(14, 0), 1);
        C.defined(x, "w=1m1+1", 15);
    }

    private static void defineOrder() {
        UnitProver x = Checks.stocked();
        C.defined(x, "x=0zz", UnitProver.NOUGHT);
        C.defined(x, "x=1c*zz", UnitProver.SHIFTED);
        C.defined(x, "x=1zz*c", UnitProver.UNKNOWN);
        C.defined(x, "x=1zz+1/0", UnitProver.UNKNOWN);
        C.defined(x, "x=1c+1/0", UnitProver.SHIFTED);
        C.defined(x, "m=1zz", UnitProver.UNKNOWN);
        C.defined(x, "m=1c", UnitProver.SHIFTED);
        C.defined(x, "m=1m2+1/0", UnitProver.NOUGHT);
        C.defined(x, "m=1m2+1", UnitProver.TWICE);
        C.defined(x, "m=1m4*m4*m4", UnitProver.TWICE);
        C.defined(x, "x=1m4*m4*m4+1", UnitProver.BAD);
        Checks.define(x, "b=999999m4");
        C.defined(x, "x=1b4", UnitProver.WIDE);
        C.defined(x, "x=1b4/m4/m4", UnitProver.OVER);
        C.defined(x, "x=1b3/m4/m4", 13);
    }

    private static void defineWorth() {
        UnitProver x = Checks.stocked();
        C.pair("in", x.scale(6, 0, 0), x.scale(6, 0, 1), 127, 5000);
        C.pair("yd", x.scale(8, 0, 0), x.scale(8, 0, 1), 1143, 1250);
        C.pair("OFFSET of c", x.scale(9, 1, 0), x.scale(9, 1, 1), 5463, 20);
        C.pair("FACTOR of f", x.scale(10, 0, 0), x.scale(10, 0, 1), 5, 9);
        C.pair("OFFSET of f", x.scale(10, 1, 0), x.scale(10, 1, 1), 45967, 180);
        C.due("power(11, 0)", x.power(11, 0), 11);
        C.due("power(11, 1)", x.power(11, 1), 11);
        C.due("power(11, 2)", x.power(11, 2), 8);
        C.defined(x, "low=2k-6/4", 12);
        C.pair("OFFSET below 0", x.scale(12, 1, 0), x.scale(12, 1, 1), -3, 2);
        C.defined(x, "nil=2k-0/4", 13);
        C.pair("OFFSET of 0", x.scale(13, 1, 0), x.scale(13, 1, 1), 0, 1);
        C.defined(x, "dbl=2nil", 14);
        C.pair("a UNIT without OFFSET serves", x.scale(14, 0, 0), x.scale(14, 0, 1), 4, 1);
        C.defined(x, "sq=1/6in2/cm3", 15);
        C.pair("FACTOR by figures", x.scale(15, 0, 0), x.scale(15, 0, 1), 16129, 150);
        C.due("power(15, 0)", x.power(15, 0), 9);
    }

    private static void defineLimits() {
        UnitProver x = new UnitProver();
        C.defined(x, "a=999999m", UnitProver.TWICE);
        Checks.define(x, "b=999999m");
        Checks.define(x, "c=999999b");
        Checks.define(x, "d=999999c");
        C.defined(x, "e=10d", UnitProver.OVER);
        C.defined(x, "e=9d", 8);
        C.defined(x, "z=1/10s/d*d", UnitProver.OVER);
        C.defined(x, "z=1/9s*d/d", 9);
        for (int i = 10; i < 20; i++) {
            C.defined(x, "u" + (char) ('a' + i) + "=1m", i);
        }
        C.defined(x, "full=1m", UnitProver.FULL);
        C.defined(x, "full=10d", UnitProver.OVER);
        C.defined(x, "full=1m4*m4*m4", UnitProver.WIDE);
        C.due("count(0)", x.count(0), 20);
        C.due("drop()", x.drop(), 19);
        C.defined(x, "full=1m", 19);
    }

    private static void drop() {
        UnitProver x = new UnitProver();
        C.due("drop() of a BASE", x.drop(), -3);
        Checks.define(x, "cm=1/100m");
        Checks.define(x, "in=254/100cm");
        x.claim(0, 5, 100, 1);
        x.claim(6, 0, 127, 5000);
        x.claim(1, 2, 3, 4);
        C.due("drop()", x.drop(), 6);
        C.due("its CLAIMS are none", x.count(1), 2);
        C.due("those behind have numbers less", x.claimOf(1, 0), 1);
        C.due("in is none", Checks.find(x, "in"), -5);
        C.due("drop()", x.drop(), 5);
        C.due("count(1)", x.count(1), 1);
        C.due("claimOf(0, 3)", x.claimOf(0, 3), 4);
        C.due("drop() at five", x.drop(), -3);
    }

    private static void find() {
        UnitProver x = Checks.stocked();
        C.due("find() of nothing", Checks.find(x, ""), -5);
        C.due("find() of m", Checks.find(x, "m"), 0);
        C.due("find() of cm", Checks.find(x, "cm"), 5);
        C.due("find() of n", Checks.find(x, "n"), 11);
        C.due("find() of mm", Checks.find(x, "mm"), -5);
        C.due("find() of cm2", Checks.find(x, "cm2"), -5);
        C.due("find() of abcde", Checks.find(x, "abcde"), -5);
        C.due("find() of M", Checks.find(x, "M"), -5);
        C.due("find() empties THE TAPE", x.count(2), 0);
    }

    private static void nameAndPower() {
        UnitProver x = new UnitProver();
        Checks.define(x, "wxyz=1m/s2");
        C.due("name(5, -1)", x.name(5, -1), 4);
        C.due("name(5, 0)", x.name(5, 0), 'w');
        C.due("name(5, 3)", x.name(5, 3), 'z');
        C.due("name(5, 4)", x.name(5, 4), -1);
        C.due("name(5, -2)", x.name(5, -2), -1);
        C.due("name(6, -1)", x.name(6, -1), -1);
        C.due("name(-1, 0)", x.name(-1, 0), -1);
        C.due("power(5, 2)", x.power(5, 2), 8);
        C.due("power(5, -1)", x.power(5, -1), -1);
        C.due("power(5, 5)", x.power(5, 5), -1);
        C.due("power(6, 0)", x.power(6, 0), -1);
        C.due("power(-1, 0)", x.power(-1, 0), -1);
    }

    private static void scale() {
        UnitProver x = Checks.stocked();
        C.due("scale(5, 0, 1)", x.scale(5, 0, 1), 100);
        int[][] wrong = {{-1, 0, 0}, {12, 0, 0}, {5, -1, 0}, {5, 2, 0}, {5, 0, -1}, {5, 0, 2}, {Integer.MAX_VALUE, 0, 0}};
        for (int[] w : wrong) {
            C.due("scale", x.scale(w[0], w[1], w[2]), Checks.NO);
        }
    }

    private static void ratio() {
        UnitProver x = Checks.stocked();
        C.pair("ratio(in, yd)", x.ratio(6, 8, 0), x.ratio(6, 8, 1), 36, 1);
        C.pair("ratio(yd, cm)", x.ratio(8, 5, 0), x.ratio(8, 5, 1), 25, 2286);
        C.pair("ratio(g, g)", x.ratio(1, 1, 0), x.ratio(1, 1, 1), 1, 1);
        C.due("of other DIMENSIONS", x.ratio(0, 1, 0), Checks.NO);
        C.due("x with an OFFSET", x.ratio(9, 3, 0), Checks.NO);
        C.due("y with an OFFSET", x.ratio(3, 9, 0), Checks.NO);
        C.due("no UNIT", x.ratio(0, 12, 0), Checks.NO);
        C.due("no UNIT", x.ratio(-1, 0, 0), Checks.NO);
        C.due("no part", x.ratio(0, 5, 2), Checks.NO);
        Checks.define(x, "big=999999m");
        Checks.define(x, "hug=999999big");
        Checks.define(x, "tiny=1/999983m");
        Checks.define(x, "nil=1/999983tiny");
        C.due("OVER", x.ratio(15, 13, 0), Checks.NO);
        C.due("near to it", x.ratio(14, 13, 0), 999999L * 999999L * 999983L);
    }

    private static void nearest() {
        UnitProver x = Checks.stocked();
        C.due("nearest(ft, 1, 1)", x.nearest(7, 1, 1), 7);
        C.due("nearest(ft, 2, 1)", x.nearest(7, 2, 1), 7);
        C.due("nearest(ft, 3, 1)", x.nearest(7, 3, 1), 8);
        C.due("nearest(ft, 999999, 1)", x.nearest(7, 999999, 1), 0);
        C.due("nearest(ft, 999999, 1000000)", x.nearest(7, 999999, 1000000), -2);
        C.due("nearest(ft, 11, 12)", x.nearest(7, 11, 12), 6);
        C.due("nearest(ft, 1, 12)", x.nearest(7, 1, 12), 6);
        C.due("nearest(ft, 1, 13)", x.nearest(7, 1, 13), 5);
        C.due("nearest(ft, 1, 999999)", x.nearest(7, 1, 999999), -5);
        C.due("those with an OFFSET, too", x.nearest(10, 1, 1), 10);
        C.due("of several the least number", x.nearest(10, 9, 5), 3);
        C.due("x itself with an OFFSET", x.nearest(9, 1, 1), 3);
        int[][] bad = {{0, 1}, {1, 0}, {-1, 1}, {1000000, 1}, {1, 1000000}};
        for (int[] pq : bad) {
            C.due("nearest(0, " + pq[0] + ", " + pq[1] + ")", x.nearest(0, pq[0], pq[1]), -2);
        }
        C.due("nearest of no UNIT", x.nearest(12, 0, 0), -1);
        C.due("nearest of no UNIT", x.nearest(-1, 1, 1), -1);
        Checks.define(x, "big=999999m");
        Checks.define(x, "hug=999999big");
        Checks.define(x, "vast=999999hug");
        C.due("OVER", x.nearest(14, 10, 1), -5);
        C.due("not OVER", x.nearest(14, 9, 1), 14);
    }
}
