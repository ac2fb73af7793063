/** Promises 16 to 18: a result IN a UNIT, its BITS, and PARTED. */
public final class AnswersTest {
    private static final Checks C = new Checks("AnswersTest");

    public static void main(String[] args) {
        in();
        inRefused();
        bits();
        parted();
        partedRefused();
        partedOver();
        C.close();
    }

    private static void in(UnitProver x, int which, int unit, long above, long below) {
        C.pair("in(" + which + ", " + unit + ")", x.in(which, unit, 0), x.in(which, unit, 1), above, below);
    }

    private static void in() {
        UnitProver x = Checks.stocked();
        C.due("in() without PROOF", x.in(0, 0, 0), Checks.NO);
        Checks.prove(x, "6ft=2yd");
        in(x, 0, 6, 72, 1);
        in(x, 1, 8, 2, 1);
        in(x, 0, 8, 2, 1);
        Checks.prove(x, "3ft=2m");
        in(x, 0, 7, 3, 1);
        in(x, 1, 7, 2500, 381);
        Checks.prove(x, "20c");
        in(x, 0, 9, 20, 1);
        in(x, 0, 10, 68, 1);
        in(x, 0, 3, 5863, 20);
        Checks.prove(x, "0f");
        in(x, 0, 9, -160, 9);
        Checks.prove(x, "(40f+0k)+0k");
        in(x, 0, 10, 40, 1);
        Checks.prove(x, "1m-2m");
        in(x, 0, 5, -100, 1);
    }

    private static void inRefused() {
        UnitProver x = Checks.stocked();
        Checks.prove(x, "1ft");
        C.due("which 1 without =", x.in(1, 7, 0), Checks.NO);
        C.due("which -1", x.in(-1, 7, 0), Checks.NO);
        C.due("which 2", x.in(2, 7, 0), Checks.NO);
        C.due("no UNIT", x.in(0, 12, 0), Checks.NO);
        C.due("no UNIT", x.in(0, -1, 0), Checks.NO);
        C.due("part 2", x.in(0, 7, 2), Checks.NO);
        C.due("part -1", x.in(0, 7, -1), Checks.NO);
        C.due("other DIMENSION", x.in(0, 1, 0), Checks.NO);
        Checks.prove(x, "1ft=1ft");
        C.due("which 1", x.in(1, 7, 0), 1);
        C.due("which 2 of =", x.in(2, 7, 0), Checks.NO);
        Checks.prove(x, "1ft=1s");
        C.due("not HELD", x.in(0, 7, 0), Checks.NO);
        Checks.prove(x, "999999*999999*922337*9k");
        C.due("far, but a long", x.in(0, 3, 0), 999999L * 999999L * 922337L * 9L);
        C.due("less OFFSET is OVER", x.in(0, 9, 0), Checks.NO);
        Checks.prove(x, "999999*999999*999999*9m");
        C.due("by FACTOR is OVER", x.in(0, 5, 0), Checks.NO);
        C.due("in m it is none", x.in(0, 0, 0), 999999L * 999999L * 999999L * 9);
    }

    private static void bits(UnitProver x, int which, int unit, double want) {
        C.due("bits as a double", x.bits(which, unit, 1), Double.doubleToLongBits(want));
        C.due("bits as a float", x.bits(which, unit, 0), Float.floatToIntBits((float) want));
    }

    private static void bits() {
        UnitProver x = Checks.stocked();
        C.due("bits() without PROOF", x.bits(0, 0, 1), Checks.NO);
        Checks.prove(x, "1ft-1ft");
        bits(x, 0, 0, 0.0);
        Checks.prove(x, "1ft-1m=1ft");
        bits(x, 0, 0, -869.0 / 1250.0);
        C.due("a float below 0 is an int below 0", x.bits(0, 0, 0) < 0 && x.bits(0, 0, 0) >= Integer.MIN_VALUE ? 1 : 0, 1);
        bits(x, 1, 0, 381.0 / 1250.0);
        C.due("sort -1", x.bits(0, 0, -1), Checks.NO);
        C.due("sort 2", x.bits(0, 0, 2), Checks.NO);
        C.due("which 2", x.bits(2, 0, 1), Checks.NO);
        C.due("other DIMENSION", x.bits(0, 1, 1), Checks.NO);
        C.due("no UNIT", x.bits(0, 12, 1), Checks.NO);
        Checks.prove(x, "999983*999979*999961*1g/999959/999953/7");
        double worth = (double) (999983L * 999979L * 999961L) / (double) (999959L * 999953L * 7L);
        bits(x, 0, 1, worth);
        Checks.prove(x, "1g/999983/999979/999961");
        bits(x, 0, 1, 1.0 / (double) (999983L * 999979L * 999961L));
        // rounds twice: to a double first, and that to a float
        Checks.prove(x, "97*172961g+g/65536/65536/4");
        C.due("a little above 16777217 as a float", x.bits(0, 1, 0), Float.floatToIntBits(16777216f));
        Checks.prove(x, "1c");
        bits(x, 0, 10, 33.8);
    }

    private static void part(UnitProver x, int k, long above, long below, int... units) {
        C.pair("parted " + k, x.parted(units[0], units[1], units[2], k, 0), x.parted(units[0], units[1], units[2], k, 1), above, below);
    }

    private static void parted() {
        UnitProver x = Checks.stocked();
        C.due("parted() without PROOF", x.parted(8, 7, 6, 0, 0), Checks.NO);
        Checks.prove(x, "100in=1m");
        part(x, 0, 2, 1, 8, 7, 6);
        part(x, 1, 2, 1, 8, 7, 6);
        part(x, 2, 4, 1, 8, 7, 6);
        part(x, 0, 2, 1, 8, 7, -1);
        part(x, 1, 7, 3, 8, 7, -1);
        part(x, 0, 25, 9, 8, -1, -1);
        part(x, 0, 2, 1, 0, 7, 5);
        part(x, 1, 1, 1, 0, 7, 5);
        part(x, 2, 588, 25, 0, 7, 5);
        Checks.prove(x, "0m");
        part(x, 0, 0, 1, 8, 7, 6);
        part(x, 2, 0, 1, 8, 7, 6);
    }

    private static void noPart(UnitProver x, String why, int a, int b, int c, int k, int part) {
        C.due("parted(): " + why, x.parted(a, b, c, k, part), Checks.NO);
    }

    private static void partedRefused() {
        UnitProver x = Checks.stocked();
        Checks.prove(x, "100in");
        noPart(x, "k -1", 8, 7, 6, -1, 0);
        noPart(x, "k 3", 8, 7, 6, 3, 0);
        noPart(x, "k 2 of two", 8, 7, -1, 2, 0);
        noPart(x, "k 1 of one", 8, -1, -1, 1, 0);
        noPart(x, "part 2", 8, 7, 6, 0, 2);
        noPart(x, "part -1", 8, 7, 6, 0, -1);
        noPart(x, "b -1 alone", 8, -1, 6, 0, 0);
        noPart(x, "a -1", -1, 7, 6, 0, 0);
        noPart(x, "b -2", 8, -2, 6, 0, 0);
        noPart(x, "c -2", 8, 7, -2, 0, 0);
        noPart(x, "no UNIT", 8, 7, 12, 0, 0);
        noPart(x, "rising", 7, 8, -1, 0, 0);
        noPart(x, "the same twice", 7, 7, -1, 0, 0);
        noPart(x, "rising behind the k-th", 7, 6, 8, 0, 0);
        noPart(x, "other DIMENSION", 8, 1, -1, 0, 0);
        Checks.prove(x, "100k");
        noPart(x, "an OFFSET", 3, 10, -1, 0, 0);
        noPart(x, "an OFFSET", 9, -1, -1, 0, 0);
        Checks.prove(x, "1in-1ft");
        noPart(x, "below 0", 8, 7, 6, 0, 0);
        Checks.prove(x, "1in=1s");
        noPart(x, "not HELD", 8, 7, 6, 0, 0);
    }

    private static void partedOver() {
        UnitProver x = Checks.stocked();
        Checks.define(x, "tiny=1/999983m");
        Checks.define(x, "nil=1/999979tiny");
        Checks.prove(x, "999999*10m+1m/7");
        part(x, 0, 9999990, 1, 0, 12, -1);
        part(x, 1, 999983, 7, 0, 12, -1);
        part(x, 2, 4999895, 7, 0, 12, 13);
        Checks.prove(x, "999999*999999m");
        part(x, 0, 999999L * 999999L, 1, 0, 12, 13);
        part(x, 2, 0, 1, 0, 12, 13);
        noPart(x, "OVER at the first", 13, -1, -1, 0, 0);
    }
}
