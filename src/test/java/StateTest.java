import java.util.List;

/** What is refused changes nothing but THE TAPE; and what is asked for changes nothing at all. */
public final class StateTest {
    private static final Checks C = new Checks("StateTest");

    /** One call on a prover. */
    private interface Call {
        long on(UnitProver x);
    }

    public static void main(String[] args) {
        differs();
        refusedUnits();
        refusedTexts();
        refusedClaims();
        refusedTracks();
        refusedRacks();
        questions();
        imageChangesNothing();
        firstOfUnits();
        firstOfClaims();
        firstOfTracks();
        firstOfRacks();
        callsToTheLast();
        C.close();
    }

    /** Something of all: 12 UNITS, 3 CLAIMS, a HELD PROOF, TRACKS, RACKS, and an IMAGE of less. */
    private static UnitProver filled() {
        UnitProver x = Checks.stocked();
        x.claim(0, 5, 100, 1);
        x.claim(7, 6, 12, 1);
        x.image();
        x.claim(7, 6, 13, 1);
        Checks.prove(x, "2ft+3in=1yd-9in");
        x.track(0, 0, 4);
        x.track(1, 1, 3);
        x.put(0, 1, 1500);
        x.put(1, 2, -2500);
        x.hang(0, 1, 9);
        x.hold(1, 2, 2);
        x.hang(2, 3, 4);
        x.hold(2, 5, 0);
        return x;
    }

    /** The answer is due, and all else is as without the call. */
    private static void leaves(String call, long due, Call refused) {
        List<Long> before = Fingerprint.of(filled());
        UnitProver x = filled();
        C.due(call, refused.on(x), due);
        C.due(call + " leaves all as it was", Fingerprint.of(x).equals(before) ? 1 : 0, 1);
    }

    private static void changes(String call, Call made) {
        UnitProver x = filled();
        made.on(x);
        C.due(call + " is seen", Fingerprint.of(x).equals(Fingerprint.of(filled())) ? 1 : 0, 0);
    }

    /** The row of answers does see what calls change. */
    private static void differs() {
        C.due("the same of two of a kind", Fingerprint.of(filled()).equals(Fingerprint.of(filled())) ? 1 : 0, 1);
        changes("feed()", x -> x.feed('m'));
        changes("define()", x -> Checks.define(x, "z=1m"));
        changes("drop()", x -> x.drop());
        changes("prove()", x -> Checks.prove(x, "2"));
        changes("claim()", x -> x.claim(1, 2, 3, 4));
        changes("unclaim()", x -> x.unclaim(0));
        changes("track()", x -> x.track(2, 0, 0));
        changes("put()", x -> x.put(0, 0, 1));
        changes("change()", x -> x.change(0, 0, 5));
        changes("twin()", x -> x.twin(0, 1));
        changes("hang()", x -> x.hang(0, 0, 0));
        changes("hold()", x -> x.hold(1, 0, 0));
        changes("shift()", x -> x.shift(0, 2));
        changes("image()", x -> x.image());
        changes("undo()", x -> x.undo());
    }

    private static void refusedUnits() {
        C.says("What is answered so changes nothing");
        leaves("feed(0)", -2, x -> x.feed(0));
        leaves("feed(128)", -2, x -> x.feed(128));
        leaves("name()", -1, x -> x.name(5, 2));
        leaves("power()", -1, x -> x.power(12, 0));
        leaves("scale()", Checks.NO, x -> x.scale(0, 2, 0));
        leaves("ratio()", Checks.NO, x -> x.ratio(0, 1, 0));
        leaves("nearest()", -2, x -> x.nearest(0, 0, 1));
        leaves("proof()", -1, x -> x.proof(5));
        leaves("step()", -1, x -> x.step(99, 0));
        leaves("value()", Checks.NO, x -> x.value(99, 0));
        leaves("same()", -1, x -> x.same(0, 99));
        leaves("in()", Checks.NO, x -> x.in(0, 1, 0));
        leaves("bits()", Checks.NO, x -> x.bits(0, 0, 2));
        leaves("parted()", Checks.NO, x -> x.parted(6, 7, -1, 0, 0));
        leaves("count()", -2, x -> x.count(6));
    }

    private static void refusedTexts() {
        C.says("but THE TAPE, which is empty behind each call that reads it.");
        for (String text : new String[] {"", "z=1m?", "z=1zz", "z=0m", "z=1c", "m=1m", "z=1m2+1", "z=1m4*m4*m4", "z=1zz+"}) {
            int due = switch (text) {
                case "" -> -100;
                case "z=1m?" -> -104;
                case "z=1zz" -> -8;
                case "z=0m" -> -9;
                case "z=1c" -> -10;
                case "m=1m" -> -11;
                case "z=1m2+1" -> -2;
                case "z=1zz+" -> -106;
                default -> -12;
            };
            leaves("define() of " + text, due, x -> Checks.define(x, text));
        }
        for (String text : new String[] {"", "1+", "2ft3in4", "((", "1=2=3"}) {
            int due = text.equals("1=2=3") ? -103 : -100 - text.length();
            leaves("prove() of " + text, due, x -> Checks.prove(x, text));
        }
        for (String text : new String[] {"", "zz", "1m", "m=", "cmcmc"}) {
            leaves("find() of " + text, -5, x -> Checks.find(x, text));
        }
        leaves("find() of cm", 5, x -> Checks.find(x, "cm"));
        UnitProver y = new UnitProver();
        for (int i = 0; i < 60; i++) {
            y.feed('m');
        }
        C.due("feed() of a full TAPE", y.feed('m'), -4);
        C.due("count(2)", y.count(2), 60);
        UnitProver z = twenty();
        C.defined(z, "z=1m", -4);
        C.due("FULL leaves all as it was", Fingerprint.of(z).equals(Fingerprint.of(twenty())) ? 1 : 0, 1);
        UnitProver five = new UnitProver();
        List<Long> before = Fingerprint.of(new UnitProver());
        C.due("drop() of five", five.drop(), -3);
        C.due("undo() without IMAGE", five.undo(), -3);
        C.due("they leave all as it was", Fingerprint.of(five).equals(before) ? 1 : 0, 1);
    }

    private static UnitProver twenty() {
        UnitProver x = new UnitProver();
        for (int i = 5; i < 20; i++) {
            Checks.define(x, "z" + (char) ('a' + i) + "=1m");
        }
        return x;
    }

    private static UnitProver sixteen() {
        UnitProver x = new UnitProver();
        for (int i = 0; i < 16; i++) {
            x.claim(0, 1 + i % 4, 1, 1 + i);
        }
        return x;
    }

    private static void refusedClaims() {
        C.says("What is answered so changes nothing");
        leaves("claim()", -1, x -> x.claim(0, 12, 1, 1));
        leaves("claim()", -1, x -> x.claim(3, 3, 1, 1));
        leaves("claim()", -2, x -> x.claim(0, 1, 0, 1));
        leaves("unclaim()", -1, x -> x.unclaim(3));
        leaves("unclaim()", -1, x -> x.unclaim(-1));
        leaves("claimOf()", -1, x -> x.claimOf(3, 0));
        leaves("claimOf()", -1, x -> x.claimOf(0, 6));
        leaves("rings()", -1, x -> x.rings(4));
        leaves("by()", Checks.NO, x -> x.by(0, 1, 0));
        UnitProver full = sixteen();
        C.due("claim()", full.claim(0, 1, 1, 1), -4);
        C.due("FULL leaves all as it was", Fingerprint.of(full).equals(Fingerprint.of(sixteen())) ? 1 : 0, 1);
    }

    private static void refusedTracks() {
        C.says("What is answered so changes nothing");
        leaves("track()", -1, x -> x.track(4, 0, 1));
        leaves("track()", -2, x -> x.track(0, 2, 1));
        leaves("track()", -2, x -> x.track(0, 1, 31));
        leaves("put()", -6, x -> x.put(2, 0, 1));
        leaves("put()", -7, x -> x.put(0, 4, 1));
        leaves("putBits()", -6, x -> x.putBits(3, 0, 1));
        leaves("putBits()", -7, x -> x.putBits(1, 3, 1));
        leaves("putBits()", -7, x -> x.putBits(1, -1, 1));
        leaves("item()", Checks.NO, x -> x.item(0, 4));
        leaves("change()", -1, x -> x.change(0, 0, 12));
        leaves("change()", -6, x -> x.change(2, 0, 5));
        leaves("change()", -13, x -> x.change(0, 0, 1));
        leaves("added()", Checks.NO, x -> x.added(2));
        leaves("cast()", Checks.NO, x -> x.cast(0, 0, 4));
        leaves("twin()", -1, x -> x.twin(0, 4));
        leaves("twin()", -6, x -> x.twin(0, 2));
    }

    private static void refusedRacks() {
        C.says("What is answered so changes nothing");
        leaves("hang()", -1, x -> x.hang(0, 1, 12));
        leaves("hang()", -7, x -> x.hang(0, 6, 1));
        leaves("hang()", -16, x -> x.hang(1, 2, 1));
        leaves("hold()", -1, x -> x.hold(1, 2, 99));
        leaves("hold()", -7, x -> x.hold(1, -1, 0));
        leaves("hold()", -16, x -> x.hold(0, 1, 0));
        leaves("rack()", -1, x -> x.rack(0, 0, 2));
        leaves("rack()", -6, x -> x.rack(0, 0, 0));
        leaves("shift()", -1, x -> x.shift(0, 3));
    }

    private static void questions() {
        C.says("Nothing is promised beyond the answers and state changes described above");
        leaves("ratio()", 12, x -> x.ratio(6, 7, 0));
        leaves("nearest()", 7, x -> x.nearest(7, 1, 1));
        leaves("step()", 5, x -> x.step(6, 0));
        leaves("same()", 2, x -> x.same(2, 5));
        leaves("in()", 27, x -> x.in(0, 6, 0));
        leaves("bits()", Double.doubleToLongBits(27), x -> x.bits(1, 6, 1));
        leaves("parted()", 3, x -> x.parted(7, 6, -1, 1, 0));
        leaves("rings()", 1, x -> x.rings(0));
        leaves("by()", 12, x -> x.by(7, 6, 0));
        leaves("cast()", -2, x -> x.cast(1, 2, 3));
        leaves("change() to itself", 4, x -> x.change(0, 0, 0));
        leaves("twin() of itself", 3, x -> x.twin(1, 1));
        leaves("shift() to itself", 6, x -> x.shift(0, 0));
    }

    private static void imageChangesNothing() {
        C.says("THE IMAGE is taken: how many UNITS.");
        UnitProver x = filled();
        C.due("image()", x.image(), 12);
        C.due("undo()", x.undo(), 12);
        C.due("count(1)", x.count(1), 3);
        C.due("the newest CLAIM", x.claimOf(2, 2), 13);
    }

    private static void firstOfUnits() {
        C.says("the first that a call's words name");
        UnitProver x = new UnitProver();
        for (int i = 0; i < 60; i++) {
            x.feed('m');
        }
        C.due("feed(): BAD; FULL", x.feed(0), -2);
        C.due("feed(): FULL", x.feed(1), -4);
        C.due("nearest(): NONE; BAD", x.nearest(5, 0, 0), -1);
        C.due("proof(): STATE; NONE", x.proof(9), -3);
        C.due("step(): STATE; NONE", x.step(-1, 9), -3);
        C.due("same(): STATE; NONE", x.same(-1, 9), -3);
        C.due("prove() of 60 bytes", x.prove(), -104);
        C.due("proof(): STATE; NONE", x.proof(9), -3);
        Checks.prove(x, "1");
        C.due("proof(): NONE", x.proof(9), -1);
        C.due("step(): NONE", x.step(-1, 9), -1);
        C.due("same(): NONE", x.same(-1, 9), -1);
    }

    private static void firstOfClaims() {
        C.says("NONE: x, y (also the same); BAD: p, q; FULL.");
        UnitProver x = new UnitProver();
        for (int i = 0; i < 16; i++) {
            x.claim(0, 1, 1, 1);
        }
        C.due("claim(): NONE; BAD; FULL", x.claim(0, 5, 0, 0), -1);
        C.due("claim(): the same; BAD; FULL", x.claim(1, 1, 0, 0), -1);
        C.due("claim(): BAD; FULL", x.claim(0, 1, 1, 0), -2);
        C.due("claim(): FULL", x.claim(0, 1, 1, 1), -4);
    }

    private static void firstOfTracks() {
        C.says("1. NONE; NOTHING; BEYOND.");
        UnitProver x = new UnitProver();
        C.due("track(): NONE; BAD", x.track(4, 2, 31), -1);
        C.due("track(): BAD", x.track(0, 2, 31), -2);
        C.due("put(): NONE; NOTHING; BEYOND", x.put(4, 30, 1), -1);
        C.due("put(): NOTHING; BEYOND", x.put(0, 30, 1), -6);
        C.due("putBits(): NONE; NOTHING; BEYOND", x.putBits(4, 30, 1), -1);
        C.due("putBits(): NOTHING; BEYOND", x.putBits(0, 30, 1), -6);
        C.due("change(): NONE; NOTHING; UNLIKE", x.change(0, 0, 5), -1);
        C.due("change(): NOTHING; UNLIKE", x.change(0, 0, 1), -6);
        C.due("twin(): NONE; NOTHING", x.twin(4, 0), -1);
        C.due("twin(): NOTHING", x.twin(0, 0), -6);
        x.track(0, 0, 1);
        C.due("put(): BEYOND", x.put(0, 1, 1), -7);
        C.due("putBits(): BEYOND", x.putBits(0, 1, 1), -7);
        C.due("change(): UNLIKE", x.change(0, 0, 1), -13);
    }

    private static void firstOfRacks() {
        C.says("NONE: rack; BEYOND; STATE: there is none; NONE: k; KIND.");
        UnitProver x = new UnitProver();
        C.due("hang(): NONE; BEYOND; KIND", x.hang(1, 6, 5), -1);
        C.due("hang(): BEYOND; KIND", x.hang(1, 6, 0), -7);
        C.due("hang(): KIND", x.hang(1, 5, 0), -16);
        C.due("hold(): NONE; BEYOND; STATE", x.hold(3, 6, 0), -1);
        C.due("hold(): BEYOND; STATE", x.hold(0, 6, 0), -7);
        C.due("hold(): STATE", x.hold(0, 5, 0), -3);
        Checks.prove(x, "1");
        C.due("hold(): BEYOND; NONE; KIND", x.hold(0, 6, 1), -7);
        C.due("hold(): NONE; KIND", x.hold(0, 5, 1), -1);
        C.due("hold(): KIND", x.hold(0, 5, 0), -16);
        C.due("rack(): NONE; BEYOND; NOTHING", x.rack(0, 6, 2), -1);
        C.due("rack(): BEYOND; NOTHING", x.rack(0, 6, 0), -7);
        C.due("rack(): NOTHING", x.rack(0, 5, 0), -6);
    }

    private static void callsToTheLast() {
        C.says("An object is used for at most 512 calls after it has been made");
        UnitProver x = new UnitProver();
        x.track(0, 0, 30);
        for (int i = 0; i < 480; i++) {
            C.due("put()", x.put(0, i % 30, 1000 * i), 1);
        }
        // 450 to 479
        C.due("added()", x.added(0), Float.floatToIntBits(13935f));
        for (int i = 0; i < 28; i++) {
            C.due("feed()", x.feed('m'), i + 1);
        }
        C.due("the 511th call", x.count(2), 28);
        C.due("the 512th call", x.prove(), -104);
    }
}
