/** One test for each sentence about TRACKS that names a bound, a rounding, an order or a refusal. */
public final class TrackBoundsTest {
    private static final Checks C = new Checks("TrackBoundsTest");
    private static final int[] WILD = {Integer.MIN_VALUE, Integer.MAX_VALUE};

    public static void main(String[] args) {
        rows();
        becomes();
        refusedTrack();
        puts();
        refusedPut();
        bitsOfDoubles();
        bitsOfFloats();
        refusedPutBits();
        items();
        changedSteps();
        changedInFloats();
        changedOffsets();
        changedEndless();
        refusedChange();
        addedInOrder();
        addedEndless();
        refusedAdded();
        casts();
        refusedCast();
        twins();
        refusedTwin();
        C.close();
    }

    private static long d(double number) {
        return Double.doubleToLongBits(number);
    }

    private static long f(float number) {
        return Float.floatToIntBits(number);
    }

    /** TRACK 0: floats, 1: doubles, of n items. */
    private static UnitProver rowsOf(int n) {
        UnitProver x = Checks.stocked();
        C.due("track(0, 0, n)", x.track(0, 0, n), 1);
        C.due("track(1, 1, n)", x.track(1, 1, n), 1);
        return x;
    }

    private static void rows() {
        C.says("TRACKS 0 .. 3: rows of floats (sort 0) or doubles (1), 0 .. 30 items, or nothing (at first).");
        UnitProver x = new UnitProver();
        for (int track = 0; track < 4; track++) {
            C.no("item(" + track + ", 0)", x.item(track, 0));
            C.due("put(" + track + ", 0, 1)", x.put(track, 0, 1), -6);
            C.due("count(4)", x.count(4), track);
            C.due("track(" + track + ")", x.track(track, track % 2, 30 * (track / 2)), 1);
        }
        C.due("count(4)", x.count(4), 4);
        C.due("item(2, 29)", x.item(2, 29), 0);
        C.due("item(3, 29)", x.item(3, 29), 0);
        C.due("put(3, 29, 1)", x.put(3, 29, 1), 1);
        C.due("put(0, 0, 1)", x.put(0, 0, 1), -7);
        C.due("put(3, 30, 1)", x.put(3, 30, 1), -7);
    }

    private static void becomes() {
        C.says("A TRACK becomes n items of a sort, all 0, or nothing (sort -1: n does not matter): 1.");
        UnitProver x = rowsOf(30);
        for (int i = 0; i < 30; i++) {
            x.put(0, i, 5);
            x.putBits(1, i, -1);
        }
        C.due("track(0, 1, 30)", x.track(0, 1, 30), 1);
        C.due("track(1, 0, 30)", x.track(1, 0, 30), 1);
        for (int i = 0; i < 30; i++) {
            C.due("item(0, " + i + ")", x.item(0, i), 0);
            C.due("item(1, " + i + ")", x.item(1, i), 0);
        }
        for (int n : new int[] {-1, 0, 31, Integer.MIN_VALUE, Integer.MAX_VALUE}) {
            C.due("track(0, 0, 1)", x.track(0, 0, 1), 1);
            C.due("track(0, -1, " + n + ")", x.track(0, -1, n), 1);
            C.due("put(0, 0, 1)", x.put(0, 0, 1), -6);
        }
        C.due("nothing again", x.track(0, -1, 0), 1);
        C.due("shorter", x.track(1, 1, 2), 1);
        C.no("item(1, 2)", x.item(1, 2));
        x.put(1, 1, 7000);
        C.due("longer", x.track(1, 1, 3), 1);
        C.due("item(1, 1)", x.item(1, 1), 0);
    }

    private static void refusedTrack() {
        C.says("NONE: track; BAD: sort, n (beyond 0 .. 30).");
        UnitProver x = rowsOf(2);
        x.put(1, 1, 1000);
        for (int track : new int[] {-1, 4, WILD[0], WILD[1]}) {
            C.due("track(" + track + ", 0, 1)", x.track(track, 0, 1), -1);
            C.due("track(" + track + ", 9, 99)", x.track(track, 9, 99), -1);
            C.due("track(" + track + ", -1, 0)", x.track(track, -1, 0), -1);
        }
        for (int sort : new int[] {-2, 2, WILD[0], WILD[1]}) {
            C.due("track(1, " + sort + ", 1)", x.track(1, sort, 1), -2);
        }
        for (int n : new int[] {-1, 31, WILD[0], WILD[1]}) {
            C.due("track(1, 0, " + n + ")", x.track(1, 0, n), -2);
            C.due("track(1, 1, " + n + ")", x.track(1, 1, n), -2);
        }
        C.due("item(1, 1)", x.item(1, 1), d(1));
    }

    private static void puts() {
        C.says("Item i becomes v by 1000 (in its sort: v as a float by 1000 as a float; doubles likewise): 1.");
        UnitProver x = rowsOf(3);
        for (int v : new int[] {0, 1, -1, 1000, 16777217, 33554435, -16777219, 123456789, Integer.MAX_VALUE, Integer.MIN_VALUE}) {
            C.due("put(0, 2, " + v + ")", x.put(0, 2, v), 1);
            C.due("put(1, 2, " + v + ")", x.put(1, 2, v), 1);
            C.due("item(0, 2) of " + v, x.item(0, 2), f((float) v / 1000f));
            C.due("item(1, 2) of " + v, x.item(1, 2), d((double) v / 1000d));
        }
        x.putBits(0, 1, 0x7fc00000L);
        x.put(0, 1, 0);
        C.due("a number again", x.item(0, 1), 0);
        C.due("the others stay", x.item(0, 0), 0);
    }

    private static void refusedPut() {
        C.says("1. NONE; NOTHING; BEYOND.");
        UnitProver x = rowsOf(2);
        for (int track : new int[] {-1, 4, WILD[0], WILD[1]}) {
            C.due("put(" + track + ", 0, 1)", x.put(track, 0, 1), -1);
            C.due("put(" + track + ", -1, 1)", x.put(track, -1, 1), -1);
        }
        C.due("put(2, 0, 1)", x.put(2, 0, 1), -6);
        C.due("put(2, -1, 1)", x.put(2, -1, 1), -6);
        for (int i : new int[] {-1, 2, 30, WILD[0], WILD[1]}) {
            C.due("put(0, " + i + ", 1)", x.put(0, i, 1), -7);
            C.due("put(1, " + i + ", 1)", x.put(1, i, 1), -7);
        }
    }

    private static void bitsOfDoubles() {
        C.says("Item i becomes what has these bits (of floats the lowest 32): 1.");
        long[] bits = {0, Long.MIN_VALUE, 1, Long.MIN_VALUE + 1, 0x000fffffffffffffL, 0x0010000000000000L, 0x0010000000000001L, 0x3fefffffffffffffL,
            0x3ff0000000000000L, 0x3ff0000000000001L, 0x7fefffffffffffffL, 0xffefffffffffffffL, 0x7ff0000000000000L, 0xfff0000000000000L, 0x0000000080000000L, 0x8010000000000000L};
        UnitProver x = rowsOf(16);
        for (int i = 0; i < bits.length; i++) {
            C.due("putBits(1, " + i + ")", x.putBits(1, i, bits[i]), 1);
        }
        for (int i = 0; i < bits.length; i++) {
            C.due("item(1, " + i + ")", x.item(1, i), bits[i]);
        }
        C.says("what is no number has 0x7fc00000, 0x7ff8000000000000");
        for (long no : new long[] {0x7ff0000000000001L, 0x7ff8000000000000L, 0x7fffffffffffffffL, 0xfff0000000000001L, 0xfff8000000000000L, -1L}) {
            x.putBits(1, 3, no);
            C.due("no number", x.item(1, 3), 0x7ff8000000000000L);
        }
    }

    private static void bitsOfFloats() {
        C.says("(of floats the lowest 32)");
        int[] bits = {0, Integer.MIN_VALUE, 1, Integer.MIN_VALUE + 1, 0x007fffff, 0x00800000, 0x00800001, 0x3f7fffff, 0x3f800000, 0x3f800001, 0x7f7fffff,
            0xff7fffff, 0x7f800000, 0xff800000, 0x80800000, 0xbf800000};
        UnitProver x = rowsOf(16);
        for (int i = 0; i < bits.length; i++) {
            C.due("putBits(0, " + i + ")", x.putBits(0, i, bits[i]), 1);
        }
        for (int i = 0; i < bits.length; i++) {
            C.due("item(0, " + i + ")", x.item(0, i), bits[i]);
            x.putBits(0, i, bits[i] & 0xffffffffL | 0x7ff0000100000000L);
            C.due("item(0, " + i + ") by the lowest 32", x.item(0, i), bits[i]);
        }
        C.says("what is no number has 0x7fc00000, 0x7ff8000000000000");
        for (long no : new long[] {0x7f800001L, 0x7fc00000L, 0x7fffffffL, 0xff800001L, 0xffc00000L, -1L}) {
            x.putBits(0, 3, no);
            C.due("no number", x.item(0, 3), 0x7fc00000L);
        }
        x.putBits(0, 3, 0x7ff8000000000000L);
        C.due("0, if the lowest 32 are", x.item(0, 3), 0);
    }

    private static void refusedPutBits() {
        C.says("Item i becomes what has these bits (of floats the lowest 32): 1. NONE; NOTHING; BEYOND.");
        UnitProver x = rowsOf(2);
        for (int track : new int[] {-1, 4, WILD[0], WILD[1]}) {
            C.due("putBits(" + track + ", 0, 1)", x.putBits(track, 0, 1), -1);
            C.due("putBits(" + track + ", -1, 1)", x.putBits(track, -1, 1), -1);
        }
        C.due("putBits(2, 0, 1)", x.putBits(2, 0, 1), -6);
        C.due("putBits(2, 30, 1)", x.putBits(2, 30, 1), -6);
        for (int i : new int[] {-1, 2, WILD[0], WILD[1]}) {
            C.due("putBits(1, " + i + ", 1)", x.putBits(1, i, 1), -7);
        }
    }

    private static void items() {
        C.says("Bits of item i (of a float as an int; what is no number has 0x7fc00000, 0x7ff8000000000000). NO: no such TRACK, nothing, no such place.");
        UnitProver x = rowsOf(2);
        x.put(0, 1, -1000);
        C.due("a float below 0 as an int", x.item(0, 1), 0xbf800000);
        for (int track : new int[] {-1, 4, WILD[0], WILD[1], 2}) {
            C.no("item(" + track + ", 0)", x.item(track, 0));
        }
        for (int i : new int[] {-1, 2, WILD[0], WILD[1]}) {
            C.no("item(0, " + i + ")", x.item(0, i));
            C.no("item(1, " + i + ")", x.item(1, i));
        }
        x.track(1, 1, 0);
        C.no("item(1, 0) of no items", x.item(1, 0));
    }

    private static void changedSteps() {
        C.says("item times above of x's FACTOR; that by its below;");
        UnitProver x = rowsOf(1);
        // each step is rounded: 0.1 times 381 by 1250, times 50000 by 127 is not 0.1 times 120
        x.putBits(1, 0, d(0.1));
        C.due("change(1, 7, 6)", x.change(1, 7, 6), 1);
        C.due("item(1, 0)", x.item(1, 0), d(((0.1 * 381.0 / 1250.0 + 0.0) - 0.0) * 5000.0 / 127.0));
        C.due("and not at once", x.item(1, 0) == d(0.1 * 12.0) ? 1 : 0, 0);
        C.says("times below of y's FACTOR; by its above.");
        x.putBits(1, 0, d(0.1));
        x.change(1, 6, 7);
        C.due("item(1, 0)", x.item(1, 0), d(0.1 * 127.0 / 5000.0 * 1250.0 / 381.0));
        x.putBits(1, 0, d(0.7));
        x.change(1, 0, 7);
        C.due("by 1", x.item(1, 0), d(0.7 * 1250.0 / 381.0));
        C.says("All items of a TRACK CHANGED from UNIT x to y, truly: how many.");
        x.track(1, 1, 30);
        C.due("change of 30", x.change(1, 6, 7), 30);
        x.track(1, 1, 0);
        C.due("change of 0", x.change(1, 6, 7), 0);
        x.put(0, 0, 100);
        C.due("from a UNIT to itself", x.change(0, 6, 6), 1);
        C.due("item(0, 0)", x.item(0, 0), f(0.1f * 127f / 5000f * 5000f / 127f));
    }

    private static void changedInFloats() {
        C.says("step by step, in floats (in doubles), each long as a float (a double) first");
        UnitProver x = rowsOf(2);
        Checks.define(x, "ba=999983m");
        Checks.define(x, "bb=999979ba");
        C.defined(x, "bc=1/999961bb", 14);
        long above = 999983L * 999979L;
        x.put(0, 0, 1157);
        x.put(1, 0, 1157);
        x.change(0, 14, 0);
        x.change(1, 14, 0);
        C.due("in floats", x.item(0, 0), f(1157f / 1000f * (float) above / 999961f));
        C.due("in doubles", x.item(1, 0), d(1157d / 1000d * (double) above / 999961d));
        x.put(0, 1, 1157);
        x.put(1, 1, 1157);
        x.change(0, 0, 14);
        x.change(1, 0, 14);
        C.due("in floats", x.item(0, 1), f(1157f / 1000f * 999961f / (float) above));
        C.due("in doubles", x.item(1, 1), d(1157d / 1000d * 999961d / (double) above));
        C.due("of the other sort it were another one", x.item(0, 1) == f((float) (1157d / 1000d * 999961d / (double) above)) ? 1 : 0, 0);
    }

    private static void changedOffsets() {
        C.says("and (above of x's OFFSET by its below); less (above of y's OFFSET by its below);");
        UnitProver x = rowsOf(3);
        Checks.define(x, "low=3k-7/3");
        int[] told = {20000, -40000, 37};
        for (int i = 0; i < 3; i++) {
            x.put(0, i, told[i]);
            x.put(1, i, told[i]);
        }
        C.due("change(0, 9, 10)", x.change(0, 9, 10), 3);
        C.due("change(1, 9, 10)", x.change(1, 9, 10), 3);
        for (int i = 0; i < 3; i++) {
            C.due("item(0, " + i + ")", x.item(0, i), f((told[i] / 1000f + 5463f / 20f - 45967f / 180f) * 9f / 5f));
            C.due("item(1, " + i + ")", x.item(1, i), d((told[i] / 1000d + 5463d / 20d - 45967d / 180d) * 9d / 5d));
            x.put(0, i, told[i]);
            x.put(1, i, told[i]);
        }
        x.change(0, 12, 3);
        x.change(1, 3, 12);
        for (int i = 0; i < 3; i++) {
            C.due("below 0: item(0, " + i + ")", x.item(0, i), f(told[i] / 1000f * 3f + -7f / 3f));
            C.due("below 0: item(1, " + i + ")", x.item(1, i), d((told[i] / 1000d - -7d / 3d) / 3d));
        }
    }

    private static void changedEndless() {
        C.says("CHANGED from UNIT x to y: of each item, step by step");
        UnitProver x = rowsOf(6);
        double[] told = {Double.POSITIVE_INFINITY, Double.NEGATIVE_INFINITY, Double.NaN, -0.0, Double.MAX_VALUE, -Double.MIN_VALUE};
        for (int i = 0; i < 6; i++) {
            x.putBits(1, i, d(told[i]));
            x.putBits(0, i, f(i == 4 ? Float.MAX_VALUE : i == 5 ? -Float.MIN_VALUE : (float) told[i]));
        }
        C.due("change(1, 5, 0)", x.change(1, 8, 6), 6);
        C.due("change(0, 5, 0)", x.change(0, 8, 6), 6);
        double most = Double.MAX_VALUE * 1143d;
        double least = -Double.MIN_VALUE * 1143d / 1250d + 0d - 0d;
        long[] due = {d(told[0]), d(told[1]), 0x7ff8000000000000L, 0, d(most / 1250d * 5000d / 127d), d(least * 5000d / 127d)};
        for (int i = 0; i < 6; i++) {
            C.due("item(1, " + i + ")", x.item(1, i), due[i]);
        }
        float mostFloat = Float.MAX_VALUE * 1143f;
        float leastFloat = -Float.MIN_VALUE * 1143f / 1250f + 0f - 0f;
        long[] dueFloats = {f(Float.POSITIVE_INFINITY), f(Float.NEGATIVE_INFINITY), 0x7fc00000L, 0, f(mostFloat / 1250f * 5000f / 127f), f(leastFloat * 5000f / 127f)};
        for (int i = 0; i < 6; i++) {
            C.due("item(0, " + i + ")", x.item(0, i), dueFloats[i]);
        }
        C.due("it went beyond all doubles on its way", x.item(1, 4), 0x7ff0000000000000L);
    }

    private static void refusedChange() {
        C.says("NONE: track, x, y; NOTHING; UNLIKE: DIMENSIONS aren't the same.");
        UnitProver x = rowsOf(1);
        x.put(1, 0, 1000);
        for (int none : new int[] {-1, 12, WILD[0], WILD[1]}) {
            C.due("change(" + none + ", 0, 0)", x.change(none, 0, 0), -1);
            C.due("change(1, " + none + ", 0)", x.change(1, none, 0), -1);
            C.due("change(1, 0, " + none + ")", x.change(1, 0, none), -1);
            C.due("change(2, 0, " + none + ")", x.change(2, 0, none), -1);
        }
        C.due("change(4, 0, 0)", x.change(4, 0, 0), -1);
        C.due("change(2, 0, 1)", x.change(2, 0, 1), -6);
        C.due("change(1, 0, 1)", x.change(1, 0, 1), -13);
        C.due("change(1, 0, 11)", x.change(1, 0, 11), -13);
        C.due("item(1, 0)", x.item(1, 0), d(1));
        x.track(1, 1, 0);
        C.due("UNLIKE, of no items, too", x.change(1, 0, 1), -13);
        for (int base = 0; base < 5; base++) {
            String own = "mgska".substring(base, base + 1);
            Checks.define(x, "x" + own + "=1n*" + own);
            C.due("UNLIKE by " + own, x.change(1, 11, 12 + base), -13);
        }
    }

    private static void addedInOrder() {
        C.says("ADDED: from 0 on all items, the first one first, in their own sort.");
        UnitProver x = rowsOf(3);
        int[] told = {100, 200, 300};
        for (int i = 0; i < 3; i++) {
            x.put(0, i, told[i]);
            x.put(1, i, told[i]);
        }
        C.due("doubles", x.added(1), d(0.1 + 0.2 + 0.3));
        C.due("the last one first were another one", d(0.3 + 0.2 + 0.1) == d(0.1 + 0.2 + 0.3) ? 1 : 0, 0);
        C.due("floats", x.added(0), f(0.1f + 0.2f + 0.3f));
        x.putBits(0, 0, f(16777216f));
        x.putBits(0, 1, f(1f));
        x.putBits(0, 2, f(1f));
        C.due("each sum is a float", x.added(0), f(16777216f));
        x.putBits(0, 0, f(1f));
        x.putBits(0, 2, f(16777216f));
        C.due("but the first one first", x.added(0), f(16777218f));
        for (int i = 0; i < 3; i++) {
            x.putBits(0, i, f(-0f));
            x.putBits(1, i, d(-0.0));
        }
        C.due("from 0 on", x.added(0), 0);
        C.due("from 0 on", x.added(1), 0);
        x.track(0, 0, 0);
        x.track(1, 1, 0);
        C.due("0 of no items", x.added(0), 0);
        C.due("0 of no items", x.added(1), 0);
        x.track(1, 1, 30);
        x.put(1, 29, 5000);
        C.due("up to the last one", x.added(1), d(5));
    }

    private static void addedEndless() {
        C.says("ADDED, bits as by item().");
        UnitProver x = rowsOf(3);
        double[][] rows = {{1, Double.NaN, 1}, {Double.POSITIVE_INFINITY, 1, Double.NEGATIVE_INFINITY}, {Double.NEGATIVE_INFINITY, Double.POSITIVE_INFINITY, 1},
            {Double.POSITIVE_INFINITY, Double.POSITIVE_INFINITY, -1}, {Double.NEGATIVE_INFINITY, 1, Double.NEGATIVE_INFINITY}, {1, 2, Double.NaN}, {-1, -2, -3}};
        for (double[] row : rows) {
            for (int i = 0; i < 3; i++) {
                x.putBits(1, i, d(row[i]));
                x.putBits(0, i, f((float) row[i]));
            }
            C.due("doubles", x.added(1), d(row[0] + row[1] + row[2]));
            C.due("floats", x.added(0), f((float) row[0] + (float) row[1] + (float) row[2]));
        }
        x.putBits(1, 0, d(Double.MAX_VALUE));
        x.putBits(1, 1, d(Double.MAX_VALUE));
        x.putBits(1, 2, d(-Double.MAX_VALUE));
        C.due("beyond all doubles", x.added(1), d(Double.POSITIVE_INFINITY));
        x.putBits(0, 0, f(-Float.MAX_VALUE));
        x.putBits(0, 1, f(-Float.MAX_VALUE));
        x.putBits(0, 2, f(Float.POSITIVE_INFINITY));
        C.due("beyond all floats, and back", x.added(0), 0x7fc00000L);
    }

    private static void refusedAdded() {
        C.says("NO: no such TRACK, nothing.");
        UnitProver x = rowsOf(1);
        for (int track : new int[] {-1, 4, 2, WILD[0], WILD[1]}) {
            C.no("added(" + track + ")", x.added(track));
        }
        x.track(0, -1, 0);
        C.no("added(0)", x.added(0));
    }

    private static void casts() {
        C.says("CAST of an item: to an int, to a byte, to a short, to a long (as Java does).");
        double[] told = {0.9, -0.9, 127.9, 128, -129, 255, 256.5, 32767.9, 32768, -32769, 65536, 2147483647.5, 2147483648.0, -2147483649.0,
            9.223372036854775807E18, -9.3E18, 1e300, Double.POSITIVE_INFINITY, Double.NEGATIVE_INFINITY, Double.NaN, -0.0, 4294967297.0, Double.MIN_VALUE};
        UnitProver x = rowsOf(1);
        for (double number : told) {
            x.putBits(1, 0, d(number));
            C.due("int of " + number, x.cast(1, 0, 0), (int) number);
            C.due("byte of " + number, x.cast(1, 0, 1), (byte) number);
            C.due("short of " + number, x.cast(1, 0, 2), (short) number);
            C.due("long of " + number, x.cast(1, 0, 3), (long) number);
            float less = (float) number;
            x.putBits(0, 0, f(less));
            C.due("int of " + less, x.cast(0, 0, 0), (int) less);
            C.due("byte of " + less, x.cast(0, 0, 1), (byte) less);
            C.due("short of " + less, x.cast(0, 0, 2), (short) less);
            C.due("long of " + less, x.cast(0, 0, 3), (long) less);
        }
    }

    private static void refusedCast() {
        C.says("CAST of item i to 0 int, 1 byte, 2 short, 3 long. NO: sort, as of item().");
        UnitProver x = rowsOf(1);
        C.due("cast(0, 0, 0)", x.cast(0, 0, 0), 0);
        for (int sort : new int[] {-1, 4, WILD[0], WILD[1]}) {
            C.no("cast(0, 0, " + sort + ")", x.cast(0, 0, sort));
        }
        for (int track : new int[] {-1, 4, 2, WILD[0], WILD[1]}) {
            C.no("cast(" + track + ", 0, 0)", x.cast(track, 0, 0));
        }
        for (int i : new int[] {-1, 1, WILD[0], WILD[1]}) {
            C.no("cast(0, " + i + ", 0)", x.cast(0, i, 0));
        }
    }

    private static void twins() {
        C.says("A TRACK becomes a copy of another one: how many items.");
        UnitProver x = rowsOf(30);
        x.put(0, 29, 1500);
        x.putBits(0, 28, 0x7fc00000L);
        x.putBits(0, 0, 0xffc00000L);
        C.due("twin(2, 0)", x.twin(2, 0), 30);
        C.due("item(2, 29)", x.item(2, 29), f(1.5f));
        C.due("item(2, 28)", x.item(2, 28), 0x7fc00000L);
        C.due("item(2, 0)", x.item(2, 0), 0x7fc00000L);
        x.put(2, 29, 3000);
        C.due("the other one stays", x.item(0, 29), f(1.5f));
        x.put(0, 28, 1000);
        C.due("and the copy", x.item(2, 28), 0x7fc00000L);
        C.due("of another sort", x.twin(1, 0), 30);
        C.due("item(1, 29)", x.item(1, 29), f(1.5f));
        x.track(3, 1, 0);
        C.due("of no items", x.twin(1, 3), 0);
        C.due("put(1, 0, 1)", x.put(1, 0, 1), -7);
        C.due("twin(0, 0)", x.twin(0, 0), 30);
        C.due("item(0, 29)", x.item(0, 29), f(1.5f));
        C.due("count(4)", x.count(4), 4);
    }

    private static void refusedTwin() {
        C.says("NONE; NOTHING: of the other one.");
        UnitProver x = rowsOf(1);
        x.put(0, 0, 1000);
        for (int none : new int[] {-1, 4, WILD[0], WILD[1]}) {
            C.due("twin(" + none + ", 0)", x.twin(none, 0), -1);
            C.due("twin(0, " + none + ")", x.twin(0, none), -1);
            C.due("twin(" + none + ", 2)", x.twin(none, 2), -1);
        }
        C.due("twin(0, 2)", x.twin(0, 2), -6);
        C.due("twin(3, 2)", x.twin(3, 2), -6);
        C.due("item(0, 0)", x.item(0, 0), f(1f));
        C.due("twin(2, 0)", x.twin(2, 0), 1);
        C.due("count(4)", x.count(4), 3);
    }
}
