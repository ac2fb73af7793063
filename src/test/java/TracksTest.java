/** Promises 24 to 31: rows of floats and doubles. */
public final class TracksTest {
    private static final Checks C = new Checks("TracksTest");
    private static final double[] DOUBLES = {0.0, -0.0, 1, -1, 0.1, Math.PI, 1e300, -1e-300, Double.MIN_VALUE, -Double.MIN_VALUE,
        Double.MIN_NORMAL, Math.nextDown(Double.MIN_NORMAL), Double.MAX_VALUE, -Double.MAX_VALUE, Double.POSITIVE_INFINITY,
        Double.NEGATIVE_INFINITY, Double.NaN, 2, 3, 0.5, Math.nextDown(1.0), Math.nextDown(2.0), 1e19, -1e19, 2147483648.0, 300.7};
    private static final float[] FLOATS = {0.0f, -0.0f, 1, -1, 0.1f, 3.14159f, 1e30f, -1e-30f, Float.MIN_VALUE, -Float.MIN_VALUE,
        Float.MIN_NORMAL, Math.nextDown(Float.MIN_NORMAL), Float.MAX_VALUE, -Float.MAX_VALUE, Float.POSITIVE_INFINITY,
        Float.NEGATIVE_INFINITY, Float.NaN, 2, 3, 0.5f, Math.nextDown(1f), Math.nextDown(2f), 1e19f, -1e19f, 2147483648f, 300.7f};

    public static void main(String[] args) {
        track();
        put();
        putBits();
        cast();
        change();
        added();
        twin();
        C.close();
    }

    private static void track() {
        UnitProver x = new UnitProver();
        C.due("track(-1, 0, 1)", x.track(-1, 0, 1), -1);
        C.due("track(4, 9, 99)", x.track(4, 9, 99), -1);
        C.due("track(0, 2, 1)", x.track(0, 2, 1), -2);
        C.due("track(0, -2, 1)", x.track(0, -2, 1), -2);
        C.due("track(0, 0, -1)", x.track(0, 0, -1), -2);
        C.due("track(0, 1, 31)", x.track(0, 1, 31), -2);
        C.due("count(4)", x.count(4), 0);
        C.due("track(3, 1, 30)", x.track(3, 1, 30), 1);
        C.due("track(0, 0, 0)", x.track(0, 0, 0), 1);
        C.due("count(4)", x.count(4), 2);
        C.due("item(3, 29)", x.item(3, 29), 0);
        C.due("item(3, 30)", x.item(3, 30), Checks.NO);
        C.due("item(0, 0)", x.item(0, 0), Checks.NO);
        C.due("put(0, 0, 1)", x.put(0, 0, 1), -7);
        x.put(3, 5, 1000);
        C.due("a refused one changes nothing", x.track(3, 0, 31), -2);
        C.due("item(3, 5)", x.item(3, 5), Double.doubleToLongBits(1));
        C.due("track(3, 1, 30) again", x.track(3, 1, 30), 1);
        C.due("all 0", x.item(3, 5), 0);
        C.due("track(3, -1, 99)", x.track(3, -1, 99), 1);
        C.due("put(3, 0, 1)", x.put(3, 0, 1), -6);
        C.due("count(4)", x.count(4), 1);
    }

    private static void put() {
        UnitProver x = new UnitProver();
        C.due("put(-1, 0, 1)", x.put(-1, 0, 1), -1);
        C.due("put(4, 0, 1)", x.put(4, 0, 1), -1);
        C.due("put(0, -1, 1)", x.put(0, -1, 1), -6);
        x.track(0, 0, 2);
        x.track(1, 1, 2);
        C.due("put(0, 2, 1)", x.put(0, 2, 1), -7);
        C.due("put(0, -1, 1)", x.put(0, -1, 1), -7);
        int[] values = {0, 1, -1, 1500, 16777217, -33554433, Integer.MAX_VALUE, Integer.MIN_VALUE};
        for (int v : values) {
            C.due("put(0, 1, " + v + ")", x.put(0, 1, v), 1);
            C.due("item(0, 1)", x.item(0, 1), Float.floatToIntBits((float) v / 1000f));
            C.due("put(1, 0, " + v + ")", x.put(1, 0, v), 1);
            C.due("item(1, 0)", x.item(1, 0), Double.doubleToLongBits(v / 1000.0));
        }
        C.due("item(0, 0)", x.item(0, 0), 0);
        C.due("item(4, 0)", x.item(4, 0), Checks.NO);
        C.due("item(-1, 0)", x.item(-1, 0), Checks.NO);
        C.due("item(2, 0)", x.item(2, 0), Checks.NO);
        C.due("item(0, -1)", x.item(0, -1), Checks.NO);
    }

    private static void putBits() {
        UnitProver x = new UnitProver();
        C.due("putBits(4, 0, 1)", x.putBits(4, 0, 1), -1);
        C.due("putBits(0, 9, 1)", x.putBits(0, 9, 1), -6);
        x.track(0, 0, 30);
        x.track(1, 1, 30);
        C.due("putBits(0, 30, 1)", x.putBits(0, 30, 1), -7);
        for (int i = 0; i < DOUBLES.length; i++) {
            C.due("putBits", x.putBits(1, i, Double.doubleToLongBits(DOUBLES[i])), 1);
            C.due("item " + DOUBLES[i], x.item(1, i), Double.doubleToLongBits(DOUBLES[i]));
        }
        for (int i = 0; i < FLOATS.length; i++) {
            C.due("putBits", x.putBits(0, i, Float.floatToIntBits(FLOATS[i])), 1);
            C.due("item " + FLOATS[i], x.item(0, i), Float.floatToIntBits(FLOATS[i]));
        }
        x.putBits(0, 0, 0x123456783f800000L);
        C.due("the lowest 32", x.item(0, 0), 0x3f800000L);
        x.putBits(0, 0, 0x7f800001L);
        C.due("no number", x.item(0, 0), 0x7fc00000L);
        x.putBits(0, 0, 0xffffffffL);
        C.due("no number", x.item(0, 0), 0x7fc00000L);
        x.put(0, 0, 1000);
        C.due("a number again", x.item(0, 0), 0x3f800000L);
        x.putBits(1, 0, 0xfff0000000000001L);
        C.due("no number", x.item(1, 0), 0x7ff8000000000000L);
        x.putBits(1, 0, -1);
        C.due("no number", x.item(1, 0), 0x7ff8000000000000L);
        x.track(1, 1, 1);
        C.due("all 0", x.item(1, 0), 0);
        long seed = 99;
        for (int i = 0; i < 20000; i++) {
            if (i % 100 == 0) {
                x = new UnitProver();
                x.track(0, 0, 1);
                x.track(1, 1, 1);
            }
            seed = seed * 6364136223846793005L + 1442695040888963407L;
            long bits = seed ^ seed >>> 29;
            x.putBits(1, 0, bits);
            C.due("bits of a double", x.item(1, 0), Double.doubleToLongBits(Double.longBitsToDouble(bits)));
            x.putBits(0, 0, bits);
            C.due("bits of a float", x.item(0, 0), Float.floatToIntBits(Float.intBitsToFloat((int) bits)));
        }
    }

    private static void cast() {
        UnitProver x = new UnitProver();
        x.track(0, 0, 30);
        x.track(1, 1, 30);
        for (int i = 0; i < DOUBLES.length; i++) {
            x.putBits(1, i, Double.doubleToLongBits(DOUBLES[i]));
            C.due("int of " + DOUBLES[i], x.cast(1, i, 0), (int) DOUBLES[i]);
            C.due("byte of " + DOUBLES[i], x.cast(1, i, 1), (byte) DOUBLES[i]);
            C.due("short of " + DOUBLES[i], x.cast(1, i, 2), (short) DOUBLES[i]);
            C.due("long of " + DOUBLES[i], x.cast(1, i, 3), (long) DOUBLES[i]);
            x.putBits(0, i, Float.floatToIntBits(FLOATS[i]));
            C.due("int of " + FLOATS[i], x.cast(0, i, 0), (int) FLOATS[i]);
            C.due("byte of " + FLOATS[i], x.cast(0, i, 1), (byte) FLOATS[i]);
            C.due("short of " + FLOATS[i], x.cast(0, i, 2), (short) FLOATS[i]);
            C.due("long of " + FLOATS[i], x.cast(0, i, 3), (long) FLOATS[i]);
        }
        C.due("cast(0, 0, 4)", x.cast(0, 0, 4), Checks.NO);
        C.due("cast(0, 0, -1)", x.cast(0, 0, -1), Checks.NO);
        C.due("cast(0, 30, 0)", x.cast(0, 30, 0), Checks.NO);
        C.due("cast(2, 0, 0)", x.cast(2, 0, 0), Checks.NO);
        C.due("cast(4, 0, 0)", x.cast(4, 0, 0), Checks.NO);
        C.due("cast(-1, 0, 0)", x.cast(-1, 0, 0), Checks.NO);
    }

    private static void change() {
        UnitProver x = Checks.stocked();
        C.due("change(0, 0, 12)", x.change(0, 0, 12), -1);
        C.due("change(0, 0, 1)", x.change(0, 0, 1), -6);
        x.track(0, 0, 30);
        x.track(1, 1, 30);
        C.due("change(4, 0, 0)", x.change(4, 0, 0), -1);
        C.due("change(-1, 0, 0)", x.change(-1, 0, 0), -1);
        C.due("change(0, -1, 0)", x.change(0, -1, 0), -1);
        C.due("change(0, 0, 1)", x.change(0, 0, 1), -13);
        for (int i = 0; i < DOUBLES.length; i++) {
            x.putBits(1, i, Double.doubleToLongBits(DOUBLES[i]));
            x.putBits(0, i, Float.floatToIntBits(FLOATS[i]));
        }
        C.due("change(0, 9, 10)", x.change(0, 9, 10), 30);
        C.due("change(1, 9, 10)", x.change(1, 9, 10), 30);
        for (int i = 0; i < DOUBLES.length; i++) {
            double d = (DOUBLES[i] * 1d / 1d + 5463d / 20d - 45967d / 180d) * 9d / 5d;
            float f = (FLOATS[i] * 1f / 1f + 5463f / 20f - 45967f / 180f) * 9f / 5f;
            C.due("changed " + DOUBLES[i], x.item(1, i), Double.doubleToLongBits(d));
            C.due("changed " + FLOATS[i], x.item(0, i), Float.floatToIntBits(f));
        }
        changeZeros();
        changeLength();
    }

    /** And 0 of no OFFSET is added, too: that takes the sign from a 0 below 0. */
    private static void changeZeros() {
        UnitProver x = Checks.stocked();
        x.track(0, 1, 2);
        x.putBits(0, 0, Long.MIN_VALUE);
        x.putBits(0, 1, 0x8000000000000001L);
        C.due("change(0, 0, 0)", x.change(0, 0, 0), 2);
        C.due("0", x.item(0, 0), 0);
        C.due("the least stays", x.item(0, 1), 0x8000000000000001L);
        C.due("change(0, 0, 8)", x.change(0, 5, 0), 2);
        C.due("0 with a sign, and 0", x.item(0, 1), 0);
        Checks.define(x, "big=3m");
        x.putBits(0, 1, 0x8000000000000001L);
        x.change(0, 0, 12);
        C.due("0 with a sign", x.item(0, 1), Long.MIN_VALUE);
    }

    private static void changeLength() {
        UnitProver x = Checks.stocked();
        x.track(2, 0, 2);
        x.put(2, 0, 12500);
        x.put(2, 1, -1);
        C.due("change(2, 6, 8)", x.change(2, 6, 8), 2);
        C.due("12.5 in in yd", x.item(2, 0), Float.floatToIntBits((12500f / 1000f * 127f / 5000f + 0f - 0f) * 1250f / 1143f));
        C.due("-0.001 in in yd", x.item(2, 1), Float.floatToIntBits((-1f / 1000f * 127f / 5000f + 0f - 0f) * 1250f / 1143f));
        x.track(2, 0, 0);
        C.due("change of no items", x.change(2, 6, 8), 0);
    }

    private static void added() {
        UnitProver x = new UnitProver();
        C.due("added(0)", x.added(0), Checks.NO);
        C.due("added(4)", x.added(4), Checks.NO);
        C.due("added(-1)", x.added(-1), Checks.NO);
        x.track(0, 0, 3);
        x.track(1, 1, 3);
        C.due("added(0)", x.added(0), 0);
        x.put(0, 0, 16777216);
        x.put(0, 1, 1);
        x.put(0, 2, -16777216);
        x.put(1, 0, 100);
        x.put(1, 1, 200);
        x.put(1, 2, 300);
        C.due("in floats", x.added(0), Float.floatToIntBits(16777.216f + 0.001f - 16777.216f));
        C.due("the first one first", x.added(1), Double.doubleToLongBits(0.1 + 0.2 + 0.3));
        x.putBits(0, 1, 0x7f800000L);
        C.due("endless", x.added(0), 0x7f800000L);
        x.putBits(0, 2, 0xff800000L);
        C.due("no number", x.added(0), 0x7fc00000L);
        x.putBits(1, 2, 0x7ff0000000000001L);
        C.due("no number", x.added(1), 0x7ff8000000000000L);
        x.putBits(1, 0, 0x7fefffffffffffffL);
        x.putBits(1, 1, 0x7fefffffffffffffL);
        x.putBits(1, 2, 0xfff0000000000000L);
        C.due("endless both ways", x.added(1), 0x7ff8000000000000L);
        x.putBits(0, 0, 0x7f7fffffL);
        x.putBits(0, 1, 0x7f7fffffL);
        x.putBits(0, 2, 0xff7fffffL);
        C.due("beyond all floats", x.added(0), 0x7f800000L);
        x.track(2, 1, 1);
        x.putBits(2, 0, Long.MIN_VALUE);
        C.due("0 and 0 with a sign", x.added(2), 0);
        x.track(2, 1, 0);
        C.due("no items", x.added(2), 0);
    }

    private static void twin() {
        UnitProver x = new UnitProver();
        C.due("twin(4, 0)", x.twin(4, 0), -1);
        C.due("twin(0, -1)", x.twin(0, -1), -1);
        C.due("twin(0, 1)", x.twin(0, 1), -6);
        x.track(1, 0, 2);
        x.put(1, 0, 2000);
        x.putBits(1, 1, 0x7fc00001L);
        C.due("twin(0, 1)", x.twin(0, 1), 2);
        x.put(1, 0, 3000);
        C.due("its own item", x.item(0, 0), 0x40000000L);
        C.due("no number", x.item(0, 1), 0x7fc00000L);
        x.put(0, 1, 1000);
        C.due("no number there", x.item(1, 1), 0x7fc00000L);
        x.putBits(1, 0, 0xffc00000L);
        x.twin(3, 1);
        C.due("no number at the first place", x.item(3, 0), 0x7fc00000L);
        x.put(1, 0, 3000);
        C.due("twin(1, 2)", x.twin(1, 2), -6);
        C.due("it stays", x.item(1, 0), 0x40400000L);
        x.track(2, 1, 0);
        C.due("twin(1, 2)", x.twin(1, 2), 0);
        C.due("item(1, 0)", x.item(1, 0), Checks.NO);
        C.due("twin(0, 0)", x.twin(0, 0), 2);
    }
}
