/** One test for each sentence about RACKS, THE IMAGE and counts that names a bound, a kind, an order or a refusal. */
public final class RackBoundsTest {
    private static final Checks C = new Checks("RackBoundsTest");
    private static final int[] WILD = {Integer.MIN_VALUE, Integer.MAX_VALUE};

    public static void main(String[] args) {
        places();
        kindsOfRacks();
        hangRefused();
        hungStays();
        holdRefused();
        heldStays();
        asAnInt();
        rackRefused();
        shiftPlaceByPlace();
        shiftRefusedKind();
        shiftNothing();
        shiftToItself();
        shiftRefused();
        imageAndUndo();
        imageAgain();
        restStays();
        undoRefused();
        counts();
        C.close();
    }

    /** A stocked prover with a PROOF of the STEPS 7, 2, 7/2 and -5/3 at last. */
    private static UnitProver proved() {
        UnitProver x = Checks.stocked();
        C.judged(x, "7/2-31/6", 7, 1);
        return x;
    }

    private static void rack(UnitProver x, int rack, int... due) {
        for (int i = 0; i < 6; i++) {
            C.due("rack(" + rack + ", " + i + ", 1)", x.rack(rack, i, 1), due[i]);
        }
    }

    private static void places() {
        C.says("RACKS 0 .. 2: each of 6 places, nothing in them at first");
        UnitProver x = proved();
        C.due("count(5)", x.count(5), 0);
        for (int rack = 0; rack < 3; rack++) {
            for (int i = 0; i < 6; i++) {
                C.due("rack(" + rack + ", " + i + ", 0)", x.rack(rack, i, 0), -6);
                C.due("rack(" + rack + ", " + i + ", 1)", x.rack(rack, i, 1), -6);
                C.due("to store", rack == 1 ? x.hold(rack, i, 0) : x.hang(rack, i, i), 1);
                C.due("count(5)", x.count(5), 6 * rack + i + 1);
            }
            C.due("rack(" + rack + ", 6, 0)", x.rack(rack, 6, 0), -7);
        }
        rack(x, 0, 0, 1, 2, 3, 4, 5);
        rack(x, 1, 7, 7, 7, 7, 7, 7);
        rack(x, 2, 0, 1, 2, 3, 4, 5);
    }

    private static void kindsOfRacks() {
        C.says("0 holds UNITS, 1 FRACTIONS, 2 either. To store the other kind in 0 or 1 is refused: KIND (-16).");
        UnitProver x = proved();
        C.due("hang(0, 0, 4)", x.hang(0, 0, 4), 1);
        C.due("hang(1, 0, 4)", x.hang(1, 0, 4), -16);
        C.due("hang(2, 0, 4)", x.hang(2, 0, 4), 1);
        C.due("hold(0, 0, 0)", x.hold(0, 0, 0), -16);
        C.due("hold(0, 1, 0)", x.hold(0, 1, 0), -16);
        C.due("hold(1, 0, 0)", x.hold(1, 0, 0), 1);
        C.due("hold(2, 1, 0)", x.hold(2, 1, 0), 1);
        C.due("hang(1, 0, 3)", x.hang(1, 0, 3), -16);
        C.says("what 0 its kind (0 UNIT, 1 FRACTION)");
        C.due("rack(0, 0, 0)", x.rack(0, 0, 0), 0);
        C.due("rack(1, 0, 0)", x.rack(1, 0, 0), 1);
        C.due("rack(2, 0, 0)", x.rack(2, 0, 0), 0);
        C.due("rack(2, 1, 0)", x.rack(2, 1, 0), 1);
        rack(x, 0, 4, -6, -6, -6, -6, -6);
        rack(x, 1, 7, -6, -6, -6, -6, -6);
        C.due("a FRACTION for a UNIT", x.hold(2, 0, 1), 1);
        C.due("a UNIT for a FRACTION", x.hang(2, 1, 1), 1);
        C.due("rack(2, 0, 0)", x.rack(2, 0, 0), 1);
        C.due("rack(2, 1, 0)", x.rack(2, 1, 0), 0);
        C.due("count(5)", x.count(5), 4);
    }

    private static void hangRefused() {
        C.says("NONE: rack, unit; BEYOND; KIND.");
        UnitProver x = proved();
        for (int rack : new int[] {-1, 3, WILD[0], WILD[1]}) {
            C.due("hang(" + rack + ", 0, 0)", x.hang(rack, 0, 0), -1);
            C.due("hang(" + rack + ", 6, 12)", x.hang(rack, 6, 12), -1);
        }
        for (int unit : new int[] {-1, 12, WILD[0], WILD[1]}) {
            C.due("hang(0, 0, " + unit + ")", x.hang(0, 0, unit), -1);
            C.due("hang(1, 6, " + unit + ")", x.hang(1, 6, unit), -1);
        }
        for (int i : new int[] {-1, 6, WILD[0], WILD[1]}) {
            C.due("hang(0, " + i + ", 0)", x.hang(0, i, 0), -7);
            C.due("hang(1, " + i + ", 0)", x.hang(1, i, 0), -7);
        }
        C.due("hang(1, 5, 0)", x.hang(1, 5, 0), -16);
        C.due("hang(0, 5, 11)", x.hang(0, 5, 11), 1);
        C.due("count(5)", x.count(5), 1);
    }

    private static void hungStays() {
        C.says("A UNIT that is hung stays what it was as it was hung.");
        UnitProver x = Checks.stocked();
        x.image();
        x.hang(0, 0, 11);
        x.hang(2, 5, 11);
        x.drop();
        C.due("without its UNIT", x.rack(0, 0, 1), 11);
        C.due("its kind", x.rack(2, 5, 0), 0);
        x.shift(0, 2);
        C.due("shifted", x.rack(2, 0, 1), 11);
        Checks.define(x, "new=2s");
        C.due("by another one", x.rack(0, 0, 1), 11);
        x.undo();
        C.due("by undo()", x.rack(0, 0, 1), 11);
        x.drop();
        C.due("hang() of none", x.hang(0, 1, 11), -1);
    }

    private static void holdRefused() {
        C.says("Place i of a RACK holds VALUE of STEP k of the LATEST PROOF: 1. NONE: rack; BEYOND; STATE: there is none; NONE: k; KIND.");
        UnitProver x = Checks.stocked();
        for (int rack : new int[] {-1, 3, WILD[0], WILD[1]}) {
            C.due("hold(" + rack + ", 6, 9)", x.hold(rack, 6, 9), -1);
        }
        for (int i : new int[] {-1, 6, WILD[0], WILD[1]}) {
            C.due("hold(0, " + i + ", 9)", x.hold(0, i, 9), -7);
        }
        C.due("hold(0, 0, 0) without PROOF", x.hold(0, 0, 0), -3);
        C.due("hold(1, 0, -1) without PROOF", x.hold(1, 0, -1), -3);
        C.judged(x, "1+m", 2, -13);
        for (int k : new int[] {-1, 2, 3, WILD[0], WILD[1]}) {
            C.due("hold(1, 0, " + k + ")", x.hold(1, 0, k), -1);
            C.due("hold(0, 0, " + k + ")", x.hold(0, 0, k), -1);
        }
        C.due("hold(0, 5, 1)", x.hold(0, 5, 1), -16);
        C.due("hold(1, 5, 1) of a WRONG PROOF", x.hold(1, 5, 1), 1);
        C.due("count(5)", x.count(5), 1);
    }

    private static void heldStays() {
        C.says("Place i of a RACK holds VALUE of STEP k of the LATEST PROOF: 1.");
        UnitProver x = proved();
        C.due("hold(1, 0, 6)", x.hold(1, 0, 6), 1);
        C.due("hold(2, 3, 2)", x.hold(2, 3, 2), 1);
        Checks.prove(x, "1+1=2");
        Checks.prove(x, "3");
        rack(x, 1, -5, -6, -6, -6, -6, -6);
        rack(x, 2, -6, -6, -6, 7, -6, -6);
    }

    private static void asAnInt() {
        C.says("1 of a UNIT its number; of a FRACTION its above as an int.");
        UnitProver x = new UnitProver();
        Checks.prove(x, "65536*32768-1");
        x.hold(1, 0, 4);
        x.hold(1, 1, 2);
        Checks.prove(x, "65536*65536+5/7*7");
        x.hold(1, 2, 2);
        x.hold(1, 3, 8);
        Checks.prove(x, "0-65536*32768-1");
        x.hold(1, 4, 4);
        x.hold(1, 5, 6);
        rack(x, 1, Integer.MAX_VALUE, Integer.MIN_VALUE, 0, 5, Integer.MIN_VALUE, Integer.MAX_VALUE);
    }

    private static void rackRefused() {
        C.says("NONE: rack, what; BEYOND; NOTHING.");
        UnitProver x = proved();
        x.hang(0, 0, 3);
        for (int rack : new int[] {-1, 3, WILD[0], WILD[1]}) {
            C.due("rack(" + rack + ", 0, 0)", x.rack(rack, 0, 0), -1);
            C.due("rack(" + rack + ", 6, 2)", x.rack(rack, 6, 2), -1);
        }
        for (int what : new int[] {-1, 2, WILD[0], WILD[1]}) {
            C.due("rack(0, 0, " + what + ")", x.rack(0, 0, what), -1);
            C.due("rack(0, 6, " + what + ")", x.rack(0, 6, what), -1);
            C.due("rack(0, 1, " + what + ")", x.rack(0, 1, what), -1);
        }
        for (int i : new int[] {-1, 6, WILD[0], WILD[1]}) {
            C.due("rack(0, " + i + ", 0)", x.rack(0, i, 0), -7);
        }
        C.due("rack(0, 1, 0)", x.rack(0, 1, 0), -6);
        C.due("rack(0, 5, 1)", x.rack(0, 5, 1), -6);
        C.due("rack(0, 0, 1)", x.rack(0, 0, 1), 3);
    }

    private static void shiftPlaceByPlace() {
        C.says("All that RACK a holds comes into RACK b, place by place from the first on");
        UnitProver x = proved();
        for (int i = 0; i < 6; i++) {
            x.hang(0, i, 6 + i);
            x.hold(2, i, 0);
        }
        C.due("shift(0, 2)", x.shift(0, 2), 6);
        rack(x, 2, 6, 7, 8, 9, 10, 11);
        rack(x, 0, 6, 7, 8, 9, 10, 11);
        C.due("its kind", x.rack(2, 5, 0), 0);
        x.hold(1, 0, 0);
        C.due("shift(1, 2)", x.shift(1, 2), 6);
        rack(x, 2, 7, -6, -6, -6, -6, -6);
        C.due("its kind", x.rack(2, 0, 0), 1);
        C.due("shift(2, 1)", x.shift(2, 1), 6);
        C.due("shift(2, 0)", x.shift(2, 0), 0);
        rack(x, 0, 6, 7, 8, 9, 10, 11);
    }

    private static void shiftRefusedKind() {
        C.says("till a place of the other kind is refused (those ahead came, what is behind stays as it was;");
        for (int at = 0; at < 6; at++) {
            UnitProver x = proved();
            for (int i = 0; i < 6; i++) {
                x.hang(0, i, 6 + i);
                x.hang(2, i, i);
            }
            C.due("hold(2, " + at + ", 0)", x.hold(2, at, 0), 1);
            C.due("shift(2, 0)", x.shift(2, 0), at);
            int[] due = new int[6];
            for (int i = 0; i < 6; i++) {
                due[i] = i < at ? i : 6 + i;
            }
            rack(x, 0, due);
            C.due("shift(2, 1)", x.shift(2, 1), at == 0 ? 1 : 0);
            C.due("count(5)", x.count(5), at == 0 ? 13 : 12);
        }
        UnitProver y = proved();
        y.hold(1, 3, 0);
        y.hang(0, 0, 1);
        y.hang(0, 3, 2);
        y.hang(0, 5, 3);
        C.due("shift(1, 0)", y.shift(1, 0), 3);
        rack(y, 0, -6, -6, -6, 2, -6, 3);
        C.due("shift(0, 1)", y.shift(0, 1), 3);
        rack(y, 1, -6, -6, -6, 7, -6, -6);
    }

    private static void shiftNothing() {
        C.says("places that hold nothing come, too)");
        UnitProver x = proved();
        C.due("shift(0, 1)", x.shift(0, 1), 6);
        C.due("shift(1, 0)", x.shift(1, 0), 6);
        x.hang(2, 0, 1);
        x.hold(2, 5, 0);
        C.due("shift(0, 2)", x.shift(0, 2), 6);
        rack(x, 2, -6, -6, -6, -6, -6, -6);
        C.due("count(5)", x.count(5), 0);
        x.hang(0, 2, 4);
        C.due("shift(1, 0)", x.shift(1, 0), 6);
        C.due("count(5)", x.count(5), 0);
    }

    private static void shiftToItself() {
        C.says("how many came (6, if a and b are the same).");
        UnitProver x = proved();
        for (int rack = 0; rack < 3; rack++) {
            C.due("shift(" + rack + ", " + rack + ")", x.shift(rack, rack), 6);
        }
        x.hang(0, 1, 1);
        x.hold(1, 2, 0);
        x.hang(2, 3, 1);
        x.hold(2, 4, 0);
        for (int rack = 0; rack < 3; rack++) {
            C.due("shift(" + rack + ", " + rack + ")", x.shift(rack, rack), 6);
        }
        rack(x, 0, -6, 1, -6, -6, -6, -6);
        rack(x, 1, -6, -6, 7, -6, -6, -6);
        rack(x, 2, -6, -6, -6, 1, 7, -6);
    }

    private static void shiftRefused() {
        C.says("how many came (6, if a and b are the same). NONE.");
        UnitProver x = proved();
        for (int none : new int[] {-1, 3, WILD[0], WILD[1]}) {
            C.due("shift(" + none + ", 0)", x.shift(none, 0), -1);
            C.due("shift(0, " + none + ")", x.shift(0, none), -1);
            C.due("shift(" + none + ", " + none + ")", x.shift(none, none), -1);
        }
    }

    private static void imageAndUndo() {
        C.says("UNITS and CLAIMS are as in THE IMAGE: how many UNITS.");
        UnitProver x = Checks.stocked();
        x.claim(0, 5, 100, 1);
        x.claim(11, 6, 1, 2);
        C.due("image()", x.image(), 12);
        x.unclaim(0);
        x.claim(1, 2, 3, 4);
        x.drop();
        x.drop();
        Checks.define(x, "z=7s2");
        Checks.define(x, "y=1k+5");
        Checks.define(x, "x=8a");
        x.claim(12, 2, 3, 4);
        C.due("undo()", x.undo(), 12);
        C.due("count(1)", x.count(1), 2);
        int[][] told = {{0, 5, 100, 1}, {11, 6, 1, 2}};
        for (int i = 0; i < 2; i++) {
            for (int what = 0; what < 4; what++) {
                C.due("claimOf(" + i + ", " + what + ")", x.claimOf(i, what), told[i][what]);
            }
        }
        C.pair("by(5, 0)", x.by(5, 0, 0), x.by(5, 0, 1), 1, 100);
        C.no("by(1, 2)", x.by(1, 2, 0));
        C.due("rings(3)", x.rings(3), 10);
        C.due("find()", Checks.find(x, "f"), 10);
        C.due("find()", Checks.find(x, "n"), 11);
        C.due("find()", Checks.find(x, "z"), -5);
        C.pair("OFFSET of f", x.scale(10, 1, 0), x.scale(10, 1, 1), 45967, 180);
        C.pair("OFFSET of n", x.scale(11, 1, 0), x.scale(11, 1, 1), 0, 1);
        C.pair("FACTOR of n", x.scale(11, 0, 0), x.scale(11, 0, 1), 1000, 1);
        C.due("power(11, 2)", x.power(11, 2), 8);
        C.due("power(11, 3)", x.power(11, 3), 10);
        C.due("name(11, -1)", x.name(11, -1), 1);
    }

    private static void imageAgain() {
        C.says("THE IMAGE is taken: how many UNITS.");
        UnitProver x = new UnitProver();
        C.due("image()", x.image(), 5);
        Checks.define(x, "b=2m");
        x.claim(0, 5, 1, 1);
        C.due("undo()", x.undo(), 5);
        C.due("count(1)", x.count(1), 0);
        Checks.define(x, "b=3m");
        C.due("image()", x.image(), 6);
        x.drop();
        C.due("undo()", x.undo(), 6);
        C.due("scale(5, 0, 0)", x.scale(5, 0, 0), 3);
        x.drop();
        C.due("undo() once more", x.undo(), 6);
        C.due("scale(5, 0, 0)", x.scale(5, 0, 0), 3);
        x.claim(0, 5, 1, 3);
        C.due("undo()", x.undo(), 6);
        C.due("count(1)", x.count(1), 0);
    }

    private static void restStays() {
        C.says("THE IMAGE: UNITS, CLAIMS (all else stays by undo()).");
        UnitProver x = Checks.stocked();
        x.image();
        Checks.define(x, "z=7s");
        Checks.prove(x, "2z");
        x.track(1, 1, 3);
        x.put(1, 1, 5000);
        x.hang(0, 0, 12);
        x.hold(1, 0, 0);
        Checks.feed(x, "1m");
        C.due("undo()", x.undo(), 12);
        C.due("THE TAPE", x.count(2), 2);
        C.due("the LATEST PROOF", x.value(0, 0), 14);
        C.due("a TRACK", x.item(1, 1), Double.doubleToLongBits(5));
        C.due("a RACK", x.rack(0, 0, 1), 12);
        C.due("a RACK", x.rack(1, 0, 1), 14);
        C.due("prove() of what was fed ahead", x.prove(), 1);
        C.due("value(0, 0)", x.value(0, 0), 1);
    }

    private static void undoRefused() {
        C.says("UNITS and CLAIMS are as in THE IMAGE: how many UNITS. STATE: there is none.");
        UnitProver x = Checks.stocked();
        x.claim(0, 1, 1, 1);
        C.due("undo()", x.undo(), -3);
        C.due("count(0)", x.count(0), 12);
        C.due("count(1)", x.count(1), 1);
    }

    private static void counts() {
        C.says("How many: 0 UNITS, 1 CLAIMS, 2 bytes of THE TAPE, 3 STEPS of the LATEST PROOF, 4 TRACKS that hold something, 5 places of all RACKS that do. BAD.");
        UnitProver x = new UnitProver();
        int[] first = {5, 0, 0, 0, 0, 0};
        for (int what = 0; what < 6; what++) {
            C.due("count(" + what + ")", x.count(what), first[what]);
        }
        Checks.define(x, "b=2m");
        x.claim(0, 1, 1, 1);
        x.claim(0, 1, 1, 1);
        Checks.prove(x, "1+2+m");
        x.track(0, 0, 0);
        x.track(3, 1, 30);
        x.track(2, 1, 1);
        x.track(2, -1, 1);
        x.hang(0, 5, 5);
        x.hold(1, 0, 0);
        x.hang(2, 0, 0);
        Checks.feed(x, "1234");
        int[] then = {6, 2, 4, 4, 2, 3};
        for (int what = 0; what < 6; what++) {
            C.due("count(" + what + ")", x.count(what), then[what]);
        }
        for (int what : new int[] {-1, 6, WILD[0], WILD[1]}) {
            C.due("count(" + what + ")", x.count(what), -2);
        }
    }
}
