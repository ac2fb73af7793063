/** One test for each sentence about what is OVER, and about answers IN a UNIT, as BITS and PARTED. */
public final class FractionBoundsTest {
    private static final Checks C = new Checks("FractionBoundsTest");
    /** The greatest long as a product of NUMBERS. */
    private static final String MOST = "649657*92737*337*127*3577";
    private static final long MAX = Long.MAX_VALUE;

    public static void main(String[] args) {
        lowestTerms();
        greatestLongs();
        leastLong();
        productsOfResults();
        sumsFirstNumber();
        sumsSecondNumber();
        sumsThemselves();
        sumsBelow();
        quotients();
        mixedOver();
        measuresOver();
        inAnswers();
        inRefused();
        inOver();
        bitsAnswers();
        bitsRefused();
        partedAnswers();
        partedNotAsTold();
        partedBelowNought();
        partedOverDividing();
        partedOverTimes();
        partedOverLess();
        C.close();
    }

    /** UNIT c is 10000000000 m, h 100000 c, w (11) the 62nd power of 2, half is 12. */
    private static UnitProver great() {
        UnitProver x = new UnitProver();
        Checks.define(x, "b=100000m");
        Checks.define(x, "c=100000b");
        Checks.define(x, "d=65536m");
        Checks.define(x, "e=65536d");
        Checks.define(x, "f=65536e");
        C.due("h", Checks.define(x, "h=100000c"), 10);
        C.due("w", Checks.define(x, "w=16384f"), 11);
        C.due("half", Checks.define(x, "half=1/2m"), 12);
        return x;
    }

    private static void lowestTerms() {
        C.says("A FRACTION: above and below, longs, in lowest terms, below 1 or more.");
        UnitProver x = new UnitProver();
        C.worth(x, "6/4", 3, 2);
        C.worth(x, "(0-6)/4", -3, 2);
        C.worth(x, "6/(0-4)", -3, 2);
        C.worth(x, "(0-6)/(0-4)", 3, 2);
        C.worth(x, "0/(0-4)", 0, 1);
        C.worth(x, "1/6+1/3", 1, 2);
        C.worth(x, "1/6-1/6", 0, 1);
        C.worth(x, "2/3*(3/2)", 1, 1);
        C.worth(x, "0*(2/3)", 0, 1);
    }

    private static void greatestLongs() {
        C.says("OVER: one of the numbers isn't a long or is the least long:");
        UnitProver x = new UnitProver();
        C.worth(x, MOST, MAX, 1);
        C.worth(x, "0-" + MOST, -MAX, 1);
        C.judged(x, MOST + "+1", 10, -15);
        C.judged(x, MOST + "*2", 10, -15);
        C.judged(x, "1-" + MOST + "-3", 12, -15);
        x = new UnitProver();
        C.worth(x, "1/649657/92737/337/127/3577", 1, MAX);
        C.worth(x, "0-1/649657/92737/337/127/3577", -1, MAX);
        C.judged(x, "1/649657/92737/337/127/3577/2", 12, -15);
        C.worth(x, "7/(" + MOST + ")", 1, MAX / 7);
        C.worth(x, "65536*65536*65536*32767", (1L << 63) - (1L << 48), 1);
        C.judged(x, "65536*65536*65536*32768", 6, -15);
        C.judged(x, "1/65536/65536/65536/32768", 8, -15);
    }

    private static void leastLong() {
        C.says("isn't a long or is the least long");
        UnitProver x = great();
        C.judged(x, "w*(0-2)", 4, -15);
        C.judged(x, "0m-w-w", 4, -15);
        C.worth(x, "m-w-w", -MAX, 1);
        C.worth(x, "0m-w-(w-m)", -MAX, 1);
        C.judged(x, "0-" + MOST + "-1", 12, -15);
        C.judged(x, "(0m-w)/(1/2)", 6, -15);
        C.judged(x, "0m-w+m/2", 6, -15);
        C.judged(x, "m/2+(0m-w)", 6, -15);
        C.worth(x, "m-w+m/2", 3 - (1L << 62) - (1L << 62), 2);
        C.worth(x, "m/2+(m-w)", 3 - (1L << 62) - (1L << 62), 2);
    }

    private static void productsOfResults() {
        C.says("of a product of two FRACTIONS those of the result alone;");
        UnitProver x = great();
        C.worth(x, "w/3m*(3m/w)", 1, 1);
        C.worth(x, "w*(3/4)", 3L << 60, 1);
        C.worth(x, "3/4*w", 3L << 60, 1);
        C.worth(x, "1/w*(4m/3)", 1, 3L << 60);
        C.judged(x, "w*(5/2)", 4, -15);
        C.judged(x, "w*w/w", 2, -15);
        C.says("A product is reduced ahead of its numbers being held to be longs.");
        C.worth(x, MOST + "*(3/7)", MAX / 7 * 3, 1);
        C.worth(x, "3/7*(" + MOST + ")", MAX / 7 * 3, 1);
        C.worth(x, MOST + "/3*3", MAX, 1);
    }

    private static void sumsFirstNumber() {
        C.says("of a sum of a by b and c by d, w being the greatest number that divides b and d: a times (d by w)");
        UnitProver x = great();
        C.judged(x, "6000h-(4000h+m)/2", 6, -15);
        C.worth(x, "4500h-(4000h+m)/2", 4999999999999999999L, 2);
        C.worth(x, "6000h-(4000h+2m)/2", 3999999999999999999L, 1);
        C.worth(x, "(6000h+m)/2-(4000h+m)/2", 1000000000000000000L, 1);
        C.judged(x, "0m-6000h+(4000h+m)/2", 8, -15);
    }

    private static void sumsSecondNumber() {
        C.says("c times (b by w)");
        UnitProver x = great();
        C.judged(x, "(4000h+m)/2-6000h", 6, -15);
        C.worth(x, "(4000h+m)/2-4500h", -4999999999999999999L, 2);
        C.judged(x, "(0m-4000h-m)/2+6000h", 8, -15);
        C.worth(x, "(0m-4000h-m)/2+4500h", 4999999999999999999L, 2);
    }

    private static void sumsThemselves() {
        C.says("their sum (difference)");
        UnitProver x = great();
        C.judged(x, "(5000h+m)/2+(5000h+m)/2", 10, -15);
        C.judged(x, "(5000h+m)/2-(0m-5000h-m)/2", 12, -15);
        C.judged(x, "(0m-5000h-m)/2-(5000h+m)/2", 12, -15);
        C.worth(x, "(4000h+m)/2+(4000h+m)/2", 4000000000000000001L, 1);
        C.worth(x, "(5000h+m)/2-(5000h+m)/2", 0, 1);
        C.judged(x, "5000h=0m-5000h", 4, -15);
        C.judged(x, "5000h+5000h", 2, -15);
        C.worth(x, "4000h+5000h", 9000000000000000000L, 1);
    }

    private static void sumsBelow() {
        C.says("b times (d by w);");
        UnitProver x = new UnitProver();
        C.judged(x, "m/30000/100000+m/(40000*100000+1)", 12, -15);
        C.judged(x, "m/30000/100000-m/(40000*100000+1)", 12, -15);
        C.judged(x, "m/30000/100000=m/(40000*100000+1)", 12, -15);
        C.worth(x, "m/20000/100000+m/(40000*100000+1)", 6000000001L, 8000000002000000000L);
        C.worth(x, "m/60000/100000+m/60000/100000", 1, 3000000000L);
        C.worth(x, "m/60000/100000+m/90000/100000", 1, 3600000000L);
    }

    private static void quotients() {
        C.says("of what is divided by one the product with it turned over (its sign above).");
        UnitProver x = great();
        C.worth(x, "1/(0-3)", -1, 3);
        C.worth(x, "(0-1)/(0-3)", 1, 3);
        C.worth(x, "1/(0-" + MOST + ")", -1, MAX);
        C.worth(x, MOST + "/(0-" + MOST + ")", -1, 1);
        C.worth(x, "w/(4/3)", 3L << 60, 1);
        C.judged(x, "w/(m/3)", 4, -15);
        C.judged(x, "w/(1/2)", 4, -15);
        C.judged(x, "w/(0-1/2)", 6, -15);
    }

    private static void mixedOver() {
        C.says("of MIXED from the left on NUMBER times FACTOR of each, added to what there is so far.");
        UnitProver x = great();
        C.judged(x, "10000h1m", 0, -15);
        C.judged(x, "1w9000h", 0, -15);
        C.judged(x, "9220h999999c", 0, -15);
        C.worth(x, "9220h1c", 9220000010000000000L, 1);
        C.judged(x, "2w1m", 0, -15);
        C.judged(x, "1.999w1h", 0, -15);
        C.worth(x, "1.5w1h", (3L << 61) + 1000000000000000L, 1);
    }

    private static void measuresOver() {
        C.says("of a MEASURE its NUMBER times the FACTOR (as often as its figure says, one by one), and the OFFSET");
        UnitProver x = great();
        C.judged(x, "2w", 0, -15);
        C.judged(x, "0.333w", 0, -15);
        C.worth(x, "1.5w", 3L << 61, 1);
        C.judged(x, "w2", 0, -15);
        C.worth(x, "0w4", 0, 1);
        Checks.define(x, "off=1w+1/2");
        C.judged(x, "off", 0, -15);
        C.judged(x, "off1", 0, -15);
        C.judged(x, "1off", 0, -15);
        C.worth(x, "0.5off", (1L << 62) + 1, 2);
        C.worth(x, "0off", 1, 2);
        Checks.define(x, "low=1w-1/2");
        C.judged(x, "low", 0, -15);
        C.worth(x, "0.5low", (1L << 62) - 1, 2);
    }

    private static void inAnswers() {
        C.says("RESULT IN a UNIT (of = the left side by which 0, the right side by which 1).");
        UnitProver x = Checks.stocked();
        Checks.prove(x, "6ft=2m");
        in(x, 0, 7, 6, 1);
        in(x, 1, 7, 2500, 381);
        Checks.prove(x, "2m+1m");
        in(x, 0, 5, 300, 1);
        C.says("RESULT: of a HELD one the last STEP but =; of = both sides.");
        Checks.prove(x, "1m+2m=4m-2m");
        in(x, 0, 0, 3, 1);
        in(x, 1, 0, 2, 1);
        C.says("IN a UNIT: VALUE less OFFSET, divided by FACTOR.");
        Checks.prove(x, "20c");
        in(x, 0, 10, 68, 1);
        in(x, 0, 9, 20, 1);
        Checks.prove(x, "0k=5k");
        in(x, 0, 9, -5463, 20);
        in(x, 1, 10, -45067, 100);
    }

    private static void in(UnitProver x, int which, int unit, long above, long below) {
        C.pair("in(" + which + ", " + unit + ")", x.in(which, unit, 0), x.in(which, unit, 1), above, below);
    }

    private static void inRefused() {
        C.says("NO: which, unit, part; no HELD PROOF, no such side; DIMENSION isn't the same; OVER.");
        UnitProver x = Checks.stocked();
        C.no("in() without PROOF", x.in(0, 0, 0));
        Checks.prove(x, "1ft");
        C.due("in(0, 7, 0)", x.in(0, 7, 0), 1);
        C.no("which -1", x.in(-1, 7, 0));
        C.no("no right side", x.in(1, 7, 0));
        C.no("which 2", x.in(2, 7, 0));
        C.no("unit -1", x.in(0, -1, 0));
        C.no("unit 12", x.in(0, 12, 0));
        C.no("part -1", x.in(0, 7, -1));
        C.no("part 2", x.in(0, 7, 2));
        C.no("DIMENSION", x.in(0, 2, 0));
        Checks.prove(x, "1ft=2ft");
        C.due("in(1, 7, 0)", x.in(1, 7, 0), 2);
        C.no("which -1", x.in(-1, 7, 0));
        C.no("which 2", x.in(2, 7, 0));
        for (String wrong : new String[] {"1ft=1", "1ft+1", "zz", "1ft/0", "1ft=zz", "1+1ft", "1s=1ft+2ft", "1s=1ft-2ft", "1=1ft"}) {
            Checks.prove(x, wrong);
            C.no("in(0) of " + wrong, x.in(0, 7, 0));
            C.no("in(1) of " + wrong, x.in(1, 7, 0));
            C.no("bits(0) of " + wrong, x.bits(0, 7, 1));
            C.no("parted() of " + wrong, x.parted(7, -1, -1, 0, 0));
        }
    }

    private static void inOver() {
        C.says("DIMENSION isn't the same; OVER.");
        UnitProver x = great();
        Checks.prove(x, "w");
        C.no("by its FACTOR", x.in(0, 12, 0));
        C.no("by its FACTOR", x.in(0, 12, 1));
        C.no("BITS likewise", x.bits(0, 12, 1));
        in(x, 0, 0, 1L << 62, 1);
        Checks.define(x, "off=1m+1/2");
        C.no("less OFFSET", x.in(0, 13, 0));
        Checks.prove(x, "w-m");
        in(x, 0, 12, (1L << 63) - 2, 1);
        in(x, 0, 13, (1L << 63) - 3, 2);
    }

    private static void bits(UnitProver x, String text, int unit, double want) {
        Checks.prove(x, text);
        C.due("bits of " + text + " as a double", x.bits(0, unit, 1), Double.doubleToLongBits(want));
        C.due("bits of " + text + " as a float", x.bits(0, unit, 0), Float.floatToIntBits((float) want));
    }

    private static void bitsAnswers() {
        C.says("BITS: of a FRACTION as a double: above as a double by below as a double; as a float: that as a float.");
        UnitProver x = great();
        bits(x, "0m", 0, 0.0);
        bits(x, "0m-0m", 0, 0.0);
        bits(x, "0m-m", 0, -1.0);
        bits(x, "m/3", 0, 1.0 / 3.0);
        bits(x, "0m-m/3", 0, -1.0 / 3.0);
        bits(x, MOST + "*m", 0, 9223372036854775808.0);
        bits(x, "m/(" + MOST + ")", 0, 1.0 / 9223372036854775808.0);
        // above and below become doubles each before they are divided: at once it would be 1 and a little
        bits(x, "(w+511m)/(w/m-1)", 0, 1.0);
        // a float is made of the double: at once it would be 16777218
        bits(x, "97*172961m+m/65536/65536/4", 0, 16777217.0);
    }

    private static void bitsRefused() {
        C.says("BITS of RESULT IN a UNIT, as a double (sort 1), as a float (0). NO: likewise; sort.");
        UnitProver x = Checks.stocked();
        C.no("bits() without PROOF", x.bits(0, 0, 1));
        Checks.prove(x, "1ft");
        C.no("sort -1", x.bits(0, 7, -1));
        C.no("sort 2", x.bits(0, 7, 2));
        C.no("which -1", x.bits(-1, 7, 1));
        C.no("no right side", x.bits(1, 7, 1));
        C.no("which 2", x.bits(2, 7, 0));
        C.no("unit -1", x.bits(0, -1, 1));
        C.no("unit 12", x.bits(0, 12, 0));
        C.no("DIMENSION", x.bits(0, 1, 1));
        Checks.prove(x, "1ft=2ft");
        C.due("the right side", x.bits(1, 7, 1), Double.doubleToLongBits(2.0));
        C.due("the right side", x.bits(1, 7, 0), Float.floatToIntBits(2f));
    }

    private static void part(UnitProver x, int a, int b, int c, long... pairs) {
        for (int k = 0; k < pairs.length / 2; k++) {
            C.pair("parted(" + a + ", " + b + ", " + c + ", " + k + ")", x.parted(a, b, c, k, 0), x.parted(a, b, c, k, 1), pairs[2 * k], pairs[2 * k + 1]);
        }
    }

    private static void partedAnswers() {
        C.says("of a VALUE of 0 or more the greatest whole number of the first, of what is left of the second, and so on; of the last all that is left (a FRACTION).");
        UnitProver x = Checks.stocked();
        Checks.prove(x, "100.5in=1yd");
        part(x, 8, 7, 6, 2, 1, 2, 1, 9, 2);
        part(x, 8, 7, -1, 2, 1, 19, 8);
        part(x, 8, 6, -1, 2, 1, 57, 2);
        part(x, 8, -1, -1, 67, 24);
        Checks.prove(x, "3ft");
        part(x, 8, 7, 6, 1, 1, 0, 1, 0, 1);
        Checks.prove(x, "11in");
        part(x, 8, 7, 6, 0, 1, 0, 1, 11, 1);
        Checks.prove(x, "0m");
        part(x, 8, 7, 6, 0, 1, 0, 1, 0, 1);
        C.says("What is IN, PARTED of = is its left side, where no other is asked for.");
        Checks.prove(x, "2ft=5yd");
        part(x, 8, 7, -1, 0, 1, 2, 1);
    }

    private static void noPart(UnitProver x, int a, int b, int c, int k, int part) {
        C.no("parted(" + a + ", " + b + ", " + c + ", " + k + ", " + part + ")", x.parted(a, b, c, k, part));
    }

    private static void partedNotAsTold() {
        C.says("RESULT PARTED by UNITS a, b, c (c -1: two; b and c -1: one): the number of the k-th. NO: no HELD PROOF; units, k, part; not as told;");
        UnitProver x = Checks.stocked();
        noPart(x, 8, 7, 6, 0, 0);
        Checks.prove(x, "100in");
        noPart(x, 8, 7, 6, -1, 0);
        noPart(x, 8, 7, 6, 3, 0);
        noPart(x, 8, 7, -1, 2, 0);
        noPart(x, 8, -1, -1, 1, 0);
        noPart(x, 8, 7, 6, 0, -1);
        noPart(x, 8, 7, 6, 0, 2);
        noPart(x, -1, 7, 6, 0, 0);
        noPart(x, -1, -1, -1, 0, 0);
        noPart(x, 12, -1, -1, 0, 0);
        noPart(x, 8, 12, -1, 0, 0);
        noPart(x, 8, -2, -1, 0, 0);
        noPart(x, 8, 7, 12, 0, 0);
        noPart(x, 8, 7, -2, 0, 0);
        noPart(x, 8, -1, 6, 0, 0);
        Checks.define(x, "l=3/2m");
        Checks.define(x, "o=4/3m");
        Checks.prove(x, "3m");
        part(x, 12, 13, 0, 2, 1, 0, 1, 0, 1);
        noPart(x, 13, 12, 0, 0, 0);
        noPart(x, 0, 13, -1, 0, 0);
        noPart(x, 12, 0, 13, 0, 0);
        x.drop();
        x.drop();
        Checks.prove(x, "100in");
        C.says("PARTED by 1 to 3 UNITS of like DIMENSION, without OFFSETS, each of lesser FACTOR than the one ahead:");
        noPart(x, 1, -1, -1, 0, 0);
        noPart(x, 8, 1, -1, 0, 0);
        noPart(x, 8, 7, 1, 0, 0);
        noPart(x, 8, 8, -1, 0, 0);
        noPart(x, 7, 8, -1, 0, 0);
        noPart(x, 8, 7, 7, 0, 0);
        noPart(x, 8, 6, 7, 0, 0);
        Checks.define(x, "mk=1/1000k");
        Checks.prove(x, "5k");
        part(x, 3, 12, -1, 5, 1, 0, 1);
        noPart(x, 9, -1, -1, 0, 0);
        noPart(x, 9, 12, -1, 0, 0);
        noPart(x, 3, 10, -1, 0, 0);
        noPart(x, 3, 10, 12, 0, 0);
    }

    private static void partedBelowNought() {
        C.says("it is below 0;");
        UnitProver x = Checks.stocked();
        Checks.prove(x, "1in-2in");
        noPart(x, 8, 7, 6, 0, 0);
        noPart(x, 6, -1, -1, 0, 0);
        Checks.prove(x, "1in-1in");
        part(x, 6, -1, -1, 0, 1);
        Checks.prove(x, "1in=0in-1in");
        part(x, 6, -1, -1, 1, 1);
        Checks.prove(x, "0in-1in=1in");
        noPart(x, 6, -1, -1, 0, 0);
    }

    private static void partedOverDividing() {
        C.says("OVER, as far as the k-th (what is left divided by the UNIT's FACTOR;");
        UnitProver x = great();
        Checks.prove(x, "w");
        noPart(x, 12, -1, -1, 0, 0);
        part(x, 0, 12, -1, 1L << 62, 1, 0, 1);
        Checks.prove(x, "w-m");
        part(x, 12, -1, -1, (1L << 63) - 2, 1);
        UnitProver y = new UnitProver();
        Checks.define(y, "b=1/999999m");
        Checks.define(y, "c=1/999999b");
        Checks.define(y, "d=1/999999c");
        Checks.define(y, "far=100m");
        Checks.prove(y, "10m");
        C.pair("the first", y.parted(8, 7, -1, 0, 0), y.parted(8, 7, -1, 0, 1), 0, 1);
        noPart(y, 8, 7, -1, 1, 0);
        Checks.prove(y, "9m");
        part(y, 8, 7, -1, 0, 1, 9L * 999999L * 999999L * 999999L, 1);
        Checks.define(y, "e=1/2d");
        Checks.prove(y, "10m");
        C.due("the first of three", y.parted(8, 7, 9, 0, 0), 0);
        noPart(y, 8, 7, 9, 1, 0);
        noPart(y, 8, 7, 9, 2, 0);
    }

    private static void partedOverTimes() {
        C.says("for those ahead of the k-th the whole number times FACTOR,");
        UnitProver x = new UnitProver();
        Checks.define(x, "b=1/65536m");
        Checks.define(x, "c=15/32768b");
        Checks.define(x, "d=1/999999c");
        C.worth(x, "3m*(65536*32768-1)", 6442450941L, 1);
        part(x, 6, -1, -1, 4611686016279904256L, 5);
        part(x, 6, 7, -1, 922337203255980851L, 1);
        noPart(x, 6, 7, -1, 1, 0);
    }

    private static void partedOverLess() {
        C.says("what is left less that).");
        UnitProver x = new UnitProver();
        Checks.define(x, "b=1/59049m");
        Checks.define(x, "c=1/59049b");
        Checks.define(x, "d=1/999999c");
        C.worth(x, "5m/65537/65521", 5, 4294049777L);
        part(x, 6, -1, -1, 17433922005L, 4294049777L);
        part(x, 6, 7, -1, 4, 1);
        noPart(x, 6, 7, -1, 1, 0);
        noPart(x, 6, 7, -1, 1, 1);
    }
}
