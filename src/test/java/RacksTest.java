/** Promises 32 to 38: racks, the image, and the counts. */
public final class RacksTest {
    private static final Checks C = new Checks("RacksTest");

    public static void main(String[] args) {
        hang();
        hold();
        rack();
        shift();
        image();
        count();
        C.close();
    }

    private static void hang() {
        UnitProver x = Checks.stocked();
        C.due("hang(3, 9, 99)", x.hang(3, 9, 99), -1);
        C.due("hang(-1, 0, 0)", x.hang(-1, 0, 0), -1);
        C.due("hang(1, 9, 12)", x.hang(1, 9, 12), -1);
        C.due("hang(0, 0, -1)", x.hang(0, 0, -1), -1);
        C.due("hang(1, 6, 0)", x.hang(1, 6, 0), -7);
        C.due("hang(0, -1, 0)", x.hang(0, -1, 0), -7);
        C.due("hang(1, 0, 0)", x.hang(1, 0, 0), -16);
        C.due("hang(0, 0, 11)", x.hang(0, 0, 11), 1);
        C.due("hang(2, 5, 9)", x.hang(2, 5, 9), 1);
        C.due("rack(0, 0, 0)", x.rack(0, 0, 0), 0);
        C.due("rack(0, 0, 1)", x.rack(0, 0, 1), 11);
        C.due("rack(2, 5, 1)", x.rack(2, 5, 1), 9);
        x.drop();
        C.due("it stays what it was", x.rack(0, 0, 1), 11);
    }

    private static void hold() {
        UnitProver x = Checks.stocked();
        C.due("hold(3, 9, 9)", x.hold(3, 9, 9), -1);
        C.due("hold(0, 6, 9)", x.hold(0, 6, 9), -7);
        C.due("hold(0, -1, 9)", x.hold(0, -1, 9), -7);
        C.due("hold(0, 0, 9)", x.hold(0, 0, 9), -3);
        Checks.prove(x, "65536*65536*3+7-m");
        C.due("hold(0, 0, 7)", x.hold(0, 0, 8), -1);
        C.due("hold(0, 0, -1)", x.hold(0, 0, -1), -1);
        C.due("hold(0, 0, 0)", x.hold(0, 0, 0), -16);
        C.due("hold(1, 0, 6)", x.hold(1, 0, 6), 1);
        C.due("hold(2, 1, 0)", x.hold(2, 1, 0), 1);
        C.due("rack(1, 0, 0)", x.rack(1, 0, 0), 1);
        C.due("rack(1, 0, 1)", x.rack(1, 0, 1), 7);
        Checks.prove(x, "1/3-m/m");
        x.hold(1, 1, 6);
        C.due("above", x.rack(1, 1, 1), -2);
        C.due("it stays", x.rack(2, 1, 1), 65536);
        Checks.prove(x, "65536*32768");
        x.hold(2, 2, 2);
        C.due("as an int", x.rack(2, 2, 1), Integer.MIN_VALUE);
    }

    private static void rack() {
        UnitProver x = new UnitProver();
        C.due("rack(3, 0, 0)", x.rack(3, 0, 0), -1);
        C.due("rack(-1, 0, 0)", x.rack(-1, 0, 0), -1);
        C.due("rack(0, 9, 2)", x.rack(0, 9, 2), -1);
        C.due("rack(0, 9, -1)", x.rack(0, 9, -1), -1);
        C.due("rack(0, 6, 0)", x.rack(0, 6, 0), -7);
        C.due("rack(0, -1, 0)", x.rack(0, -1, 0), -7);
        C.due("rack(0, 5, 0)", x.rack(0, 5, 0), -6);
    }

    private static void shift() {
        UnitProver x = Checks.stocked();
        Checks.prove(x, "41");
        C.due("shift(3, 0)", x.shift(3, 0), -1);
        C.due("shift(0, -1)", x.shift(0, -1), -1);
        C.due("nothing comes, too", x.shift(0, 1), 6);
        x.hang(2, 0, 4);
        x.hang(2, 2, 6);
        x.hold(2, 4, 0);
        x.hang(2, 5, 7);
        x.hang(0, 1, 1);
        x.hang(0, 4, 2);
        x.hang(0, 5, 3);
        C.due("shift(2, 0)", x.shift(2, 0), 4);
        int[] due = {4, -6, 6, -6, 2, 3};
        for (int i = 0; i < 6; i++) {
            C.due("rack(0, " + i + ", 1)", x.rack(0, i, 1), due[i]);
        }
        C.due("what came is there still", x.rack(2, 0, 1), 4);
        C.due("shift(2, 1)", x.shift(2, 1), 0);
        C.due("shift(2, 2)", x.shift(2, 2), 6);
        x.hold(1, 3, 0);
        C.due("shift(1, 2)", x.shift(1, 2), 6);
        C.due("rack(2, 3, 1)", x.rack(2, 3, 1), 41);
        C.due("rack(2, 0, 1)", x.rack(2, 0, 1), -6);
        C.due("shift(1, 0)", x.shift(1, 0), 3);
        C.due("rack(0, 2, 1)", x.rack(0, 2, 1), -6);
        C.due("rack(0, 4, 1)", x.rack(0, 4, 1), 2);
    }

    private static void image() {
        UnitProver x = Checks.stocked();
        C.due("undo() without", x.undo(), -3);
        x.claim(0, 5, 100, 1);
        x.claim(6, 11, 1, 1);
        C.due("image()", x.image(), 12);
        x.drop();
        x.drop();
        Checks.define(x, "new=7s");
        x.claim(1, 2, 3, 4);
        Checks.prove(x, "2new");
        x.track(0, 0, 1);
        x.hang(0, 0, 10);
        Checks.feed(x, "1m");
        C.due("undo()", x.undo(), 12);
        C.due("count(1)", x.count(1), 2);
        C.due("claimOf(1, 1)", x.claimOf(1, 1), 11);
        C.due("rings(3)", x.rings(3), 10);
        C.due("name(10, 0)", x.name(10, 0), 'f');
        C.due("name(10, -1)", x.name(10, -1), 1);
        C.pair("OFFSET of f", x.scale(10, 1, 0), x.scale(10, 1, 1), 45967, 180);
        C.due("power(10, 3)", x.power(10, 3), 11);
        C.due("power(10, 2)", x.power(10, 2), 10);
        C.due("THE TAPE stays", x.count(2), 2);
        C.due("the LATEST PROOF stays", x.value(0, 0), 14);
        C.due("TRACKS stay", x.count(4), 1);
        C.due("RACKS stay", x.rack(0, 0, 1), 10);
        x.unclaim(0);
        C.due("undo() again", x.undo(), 12);
        C.due("count(1)", x.count(1), 2);
        x.unclaim(0);
        x.drop();
        C.due("another image()", x.image(), 11);
        C.due("undo()", x.undo(), 11);
        C.due("count(1)", x.count(1), 0);
    }

    private static void count() {
        UnitProver x = new UnitProver();
        C.due("count(-1)", x.count(-1), -2);
        C.due("count(6)", x.count(6), -2);
        x.hang(0, 0, 0);
        x.hang(2, 3, 0);
        C.due("count(5)", x.count(5), 2);
        x.shift(1, 2);
        C.due("count(5)", x.count(5), 1);
        x.claim(0, 1, 1, 1);
        C.due("count(1)", x.count(1), 1);
        Checks.prove(x, "1+m");
        C.due("count(3) counts none that is WRONG", x.count(3), 2);
        Checks.feed(x, "1+m");
        C.due("count(2)", x.count(2), 3);
    }
}
