/** Long runs of calls, made up by a fixed rule, answered by the program and by the Oracle alike. */
public final class OracleTest {
    private static final String[] NAMES = {"m", "g", "s", "k", "a", "cm", "in", "ft", "yd", "c", "f", "n", "x", "y",
        "zz", "abc", "abcd", "q", "w", "h", "big", "sml", "p", "e", "r", "t", "u", "o"};
    private static final String[] RATIOS = {"1", "1", "1", "2", "3", "12", "60", "1/100", "254/100", "5/9", "1/3", "999999",
        "1/999999", "999983", "7/999983", "0", "0/3", "3/0", "1000", "4/2", "1/1000", "65536", "1/65536", "500000"};
    private static final long[] BITS = {0, 1, -1, 1L << 63, 0x7ff0000000000000L, 0xfff0000000000000L, 0x7ff0000000000001L,
        0xfff8000000000000L, 0x7fefffffffffffffL, 0x0010000000000000L, 0x000fffffffffffffL, 0x3ff0000000000000L,
        0x7f800000L, 0xff800000L, 0x7f800001L, 0xffc00000L, 0x7f7fffffL, 0x00800000L, 0x007fffffL, 0x80000000L, 0x80000001L,
        0x41e0000000000000L, 0xc1e0000000000000L, 0x43e0000000000000L, 0x4f000000L, 0x5f000000L, 0x8000000000000001L};

    private static final int MOST_CALLS = 435;
    private static final String[][] STOCKS = {
        {"cm=1/100m", "in=254/100cm", "ft=12in", "yd=3ft", "c=1k+27315/100", "f=5/9k+45967/180", "n=1000g*m/s2"},
        {"mi=60s", "h=60mi", "d=24h", "w=7d", "ms=1/1000s", "us=1/1000ms", "ns=1/1000us", "ps=1/1000ns", "fs=1/1000ps"},
        {"big=999999m", "hug=999999big", "vast=999999hug", "sml=1/999999m", "tin=1/999983sml", "nil=1/999979tin", "x=7m-1/3"},
        {"p=1m3*g2/s4", "q=1p3", "r=1p2*m3", "c=1k+27315/100", "b=1k-5", "u=65536/65535m", "v=65521/65519m", "w=2k"},
        {"aa=1m", "ab=1m", "ac=2m", "ad=3m", "ae=1/2m", "af=1/3m", "ag=1m", "ah=5m", "ai=6m", "aj=7m", "ak=8m", "al=9m",
            "am=10m", "an=11m", "ao=12m"}};

    private long seed;
    private UnitProver x;
    private Oracle o;
    private final Checks checks;

    private int begun;

    private OracleTest(Checks checks) {
        this.checks = checks;
    }

    /** Whether a run comes near the 512 calls behind which all is free: no ask makes the rest without looking here. */
    private boolean spent() {
        return checks.asked() - begun >= MOST_CALLS;
    }

    private int pick(int n) {
        seed = seed * 6364136223846793005L + 1442695040888963407L;
        return (int) Math.floorMod(seed >> 24, (long) n);
    }

    private String of(String... words) {
        return words[pick(words.length)];
    }

    private String unitName() {
        int i = pick(o.units.size() + 1);
        return i < o.units.size() ? o.units.get(i).name : of(NAMES);
    }

    private String shiftless() {
        for (int i = 0; i < 5; i++) {
            int n = pick(o.units.size());
            if (!o.units.get(n).shifted()) {
                return o.units.get(n).name;
            }
        }
        return "m";
    }

    private String figure() {
        return pick(4) > 0 ? "" : "" + (char) ('1' + pick(4));
    }

    private String ratio() {
        return pick(3) > 0 ? of(RATIOS) : pick(2) == 0 ? "" + (1 + pick(999999)) : (1 + pick(999999)) + "/" + (1 + pick(999999));
    }

    private String definition() {
        StringBuilder text = new StringBuilder(of(NAMES)).append('=').append(ratio());
        if (pick(4) == 0) {
            return text.append(pick(5) > 0 ? shiftless() : unitName()).append(of("", "", "", "1", "2")).append(of("+", "-")).append(ratio()).toString();
        }
        int more = pick(3) > 0 ? pick(2) : pick(5);
        text.append(pick(9) > 0 ? shiftless() : unitName()).append(figure());
        for (int i = 0; i < more; i++) {
            text.append(of("*", "/")).append(pick(9) > 0 ? shiftless() : unitName()).append(figure());
        }
        return text.toString();
    }

    private String number() {
        String whole = switch (pick(5)) {
            case 0 -> "" + pick(3);
            case 1 -> "" + pick(1000000);
            case 2 -> "999999";
            default -> "" + (1 + pick(60));
        };
        return pick(4) > 0 ? whole : whole + "." + of("5", "25", "125", "0", "000", "999", "1");
    }

    private String like(String name) {
        int first = o.named(name);
        for (int i = 0; i < 20 && first >= 0; i++) {
            int n = pick(o.units.size());
            if (java.util.Arrays.equals(o.units.get(n).dim, o.units.get(first).dim)) {
                return o.units.get(n).name;
            }
        }
        return name;
    }

    private String part(int depth, String unit) {
        String name = pick(3) > 0 ? like(unit) : unitName();
        switch (pick(depth > 4 ? 6 : 8)) {
            case 0:
                return number();
            case 1:
                return name + figure();
            case 2, 3:
                return number() + name + figure();
            case 4, 5:
                StringBuilder mixed = new StringBuilder();
                int many = 2 + pick(3);
                for (int i = 0; i < many; i++) {
                    mixed.append(number()).append(pick(8) > 0 ? smaller(name, i) : unitName());
                }
                return mixed.toString();
            default:
                return "(" + sum(depth + 1, unit) + ")";
        }
    }

    /** Of the UNITS like one, mostly by falling FACTORS. */
    private String smaller(String name, int nth) {
        int first = o.named(name);
        if (first < 0) {
            return name;
        }
        java.util.List<Oracle.U> row = new java.util.ArrayList<>();
        for (Oracle.U u : o.units) {
            if (java.util.Arrays.equals(u.dim, o.units.get(first).dim) && !u.shifted()) {
                row.add(u);
            }
        }
        row.sort((a, b) -> b.factor.cmp(a.factor));
        return row.isEmpty() ? name : row.get(Math.min(nth, row.size() - 1)).name;
    }

    private String term(int depth, String unit) {
        StringBuilder text = new StringBuilder(part(depth, unit));
        int more = pick(3) > 0 ? 0 : 1 + pick(3);
        for (int i = 0; i < more; i++) {
            text.append(of("*", "/")).append(pick(2) == 0 ? number() : part(depth, unitName()));
        }
        return text.toString();
    }

    private String sum(int depth, String unit) {
        StringBuilder text = new StringBuilder(term(depth, unit));
        int more = pick(3) > 0 ? pick(2) : pick(4);
        for (int i = 0; i < more; i++) {
            text.append(of("+", "-")).append(term(depth, unit));
        }
        return text.toString();
    }

    private String formula() {
        String unit = unitName();
        String text = pick(3) == 0 ? part(0, unit) : sum(0, unit);
        return pick(2) == 0 ? text : text + "=" + (pick(5) == 0 ? text : sum(0, unit));
    }

    private String spoilt(String text) {
        String signs = "0123456789abcmgz=+-*/()=. A~";
        int at = pick(text.length() + 1);
        String sign = "" + signs.charAt(pick(signs.length()));
        return switch (pick(4)) {
            case 0 -> text.substring(0, at) + sign + text.substring(at);
            case 1 -> text.substring(0, at);
            case 2 -> at == text.length() ? text : text.substring(0, at) + text.substring(at + 1);
            default -> at == text.length() ? text : text.substring(0, at) + sign + text.substring(at + 1);
        };
    }

    private void feedBoth(String text) {
        for (int i = 0; i < text.length(); i++) {
            checks.due("feed", x.feed(text.charAt(i)), o.feed(text.charAt(i)));
        }
    }

    private void askTexts() {
        String text;
        int which = pick(10);
        text = which < 3 ? definition() : which < 9 ? formula() : of(NAMES);
        // most texts that do not fit onto THE TAPE would only be FAULTS
        for (int i = 0; i < 20 && text.length() > 60; i++) {
            text = which < 3 ? definition() : formula();
        }
        if (pick(6) == 0) {
            text = spoilt(text);
        }
        feedBoth(text);
        checks.due("count(2)", x.count(2), o.count(2));
        if (which < 3) {
            checks.due("define() of " + text, x.define(), o.define());
        } else if (which < 9) {
            checks.due("prove() of " + text, x.prove(), o.prove());
            askProof(text);
        } else {
            checks.due("find() of " + text, x.find(), o.find());
        }
    }

    private void askProof(String text) {
        for (int what = -1; what <= 5; what++) {
            checks.due("proof(" + what + ") of " + text, x.proof(what), o.proof(what));
        }
        int steps = x.count(3);
        for (int i = -1; i <= steps && !spent(); i++) {
            if (steps > 5 && pick(3) > 0) {
                continue;
            }
            for (int k = 0; k < 3; k++) {
                int what = pick(9) - 1;
                checks.due("step(" + i + ", " + what + ") of " + text, x.step(i, what), o.step(i, what));
            }
            checks.due("value(" + i + ", 0) of " + text, x.value(i, 0), o.value(i, 0));
            checks.due("value(" + i + ", 1) of " + text, x.value(i, 1), o.value(i, 1));
        }
        askAnswers(text);
    }

    private void askAnswers(String text) {
        for (int i = 0; i < 8 && !spent(); i++) {
            int unit = pick(4) == 0 ? pick(23) - 1 : unitNumber();
            int which = pick(4) == 0 ? pick(4) - 1 : pick(2);
            int sort = pick(6) == 0 ? pick(4) - 1 : pick(2);
            checks.due("in(" + which + ", " + unit + ", 0) of " + text, x.in(which, unit, 0), o.in(which, unit, 0));
            checks.due("in(" + which + ", " + unit + ", 1) of " + text, x.in(which, unit, 1), o.in(which, unit, 1));
            checks.due("bits(" + which + ", " + unit + ", " + sort + ") of " + text, x.bits(which, unit, sort), o.bits(which, unit, sort));
        }
        for (int i = 0; i < 6 && !spent(); i++) {
            int first = o.latest == null ? 0 : unitNumber();
            int a = i > 2 ? pick(22) - 1 : like(first, 0);
            int b = i > 2 ? pick(22) - 1 : pick(4) == 0 ? -1 : like(first, 1);
            int c = i > 2 ? pick(22) - 1 : pick(2) == 0 ? -1 : like(first, 2);
            int part = pick(2);
            for (int k = pick(8) == 0 ? -1 : 0; k <= 2 + i / 5; k++) {
                checks.due("parted(" + a + ", " + b + ", " + c + ", " + k + ", " + part + ") of " + text, x.parted(a, b, c, k, part), o.parted(a, b, c, k, part));
            }
        }
    }

    /** A UNIT like the LATEST PROOF's result, if there is one. */
    private int unitNumber() {
        Oracle.St r = o.result(0);
        for (int i = 0; i < 40 && r != null; i++) {
            int n = pick(o.units.size());
            if (java.util.Arrays.equals(o.units.get(n).dim, r.dim())) {
                return n;
            }
        }
        return pick(o.units.size());
    }

    private int like(int unit, int nth) {
        return o.named(smaller(o.units.get(Math.min(unit, o.units.size() - 1)).name, nth + pick(2)));
    }

    private void askUnits() {
        int a = pick(23) - 1;
        int b = pick(23) - 1;
        int part = pick(5) - 1;
        checks.due("name", x.name(a, part - 1), o.name(a, part - 1));
        checks.due("power", x.power(a, pick(1) + part), o.power(a, part));
        checks.due("scale", x.scale(a, 0, part), o.scale(a, 0, part));
        checks.due("scale", x.scale(a, 1, part), o.scale(a, 1, part));
        checks.due("scale", x.scale(a, b, 0), o.scale(a, b, 0));
        checks.due("ratio", x.ratio(a, b, part), o.ratio(a, b, part));
        int c = o.units.size() > a && a >= 0 ? o.named(like(o.units.get(a).name)) : b;
        checks.due("ratio", x.ratio(a, c, part), o.ratio(a, c, part));
        int p = told();
        int q = told();
        checks.due("nearest(" + a + ", " + p + ", " + q + ")", x.nearest(a, p, q), o.nearest(a, p, q));
        int i = pick(12) - 1;
        int j = pick(12) - 1;
        checks.due("same", x.same(i, j), o.same(i, j));
        for (int k = 0; k < 3; k++) {
            int what = pick(8) - 1;
            checks.due("count(" + what + ")", x.count(what), o.count(what));
        }
    }

    private int told() {
        return switch (pick(8)) {
            case 0 -> pick(3) - 1;
            case 1 -> 999998 + pick(3);
            case 2 -> 1;
            case 3, 4 -> 1 + pick(999999);
            default -> 1 + pick(12);
        };
    }

    private void askClaims() {
        int a = pick(o.units.size() + 2) - 1;
        int b = pick(3) == 0 || a < 0 || a >= o.units.size() ? pick(o.units.size() + 2) - 1 : o.named(like(o.units.get(a).name));
        int p = told();
        int q = told();
        if (pick(2) == 0 && o.ratio(b, a, 0) != Oracle.NO && Math.max(o.ratio(b, a, 0), o.ratio(b, a, 1)) < 1000000) {
            p = (int) o.ratio(b, a, 0);
            q = (int) o.ratio(b, a, 1);
        } else if (pick(3) == 0 && o.by(a, b, 0) != Oracle.NO && Math.max(o.by(a, b, 0), o.by(a, b, 1)) < 1000000) {
            p = (int) o.by(a, b, 0);
            q = (int) o.by(a, b, 1);
        }
        if (pick(4) > 0) {
            checks.due("claim(" + a + ", " + b + ", " + p + ", " + q + ")", x.claim(a, b, p, q), o.claim(a, b, p, q));
        } else {
            int i = pick(18) - 1;
            checks.due("unclaim(" + i + ")", x.unclaim(i), o.unclaim(i));
        }
        for (int what = -1; what <= 4; what++) {
            checks.due("rings(" + what + ")", x.rings(what), o.rings(what));
        }
        int i = pick(18) - 1;
        for (int what = -1; what <= 6; what++) {
            checks.due("claimOf(" + i + ", " + what + ")", x.claimOf(i, what), o.claimOf(i, what));
        }
        for (int k = 0; k < 4; k++) {
            int c = pick(o.units.size() + 2) - 1;
            int d = pick(o.units.size() + 2) - 1;
            int part = pick(4) - 1;
            checks.due("by", x.by(c, d, part), o.by(c, d, part));
        }
    }

    private void askTracks() {
        int t = pick(6) - 1;
        int u = pick(6) - 1;
        int i = pick(3) == 0 ? pick(33) - 1 : pick(4);
        int sort = pick(8) == 0 ? pick(5) - 2 : pick(2);
        int n = pick(6) == 0 ? pick(36) - 2 : pick(5);
        long bits = pick(2) == 0 ? BITS[pick(BITS.length)] : seed * 31 ^ seed >>> 17;
        int v = pick(3) == 0 ? (int) seed : pick(200001) - 100000;
        switch (pick(10)) {
            case 0 -> checks.due("track", x.track(t, sort, n), o.track(t, sort, n));
            case 1, 2 -> checks.due("put", x.put(t, i, v), o.put(t, i, v));
            case 3, 4, 5 -> checks.due("putBits", x.putBits(t, i, bits), o.putBits(t, i, bits));
            case 6 -> checks.due("twin", x.twin(t, u), o.twin(t, u));
            default -> {
                int a = pick(o.units.size() + 2) - 1;
                int b = pick(4) == 0 || a < 0 || a >= o.units.size() ? pick(o.units.size() + 2) - 1 : o.named(like(o.units.get(a).name));
                checks.due("change", x.change(t, a, b), o.change(t, a, b));
            }
        }
        checks.due("added(" + t + ")", x.added(t), o.added(t));
        for (int k = -1; k <= 5 && pick(2) == 0; k++) {
            checks.due("item(" + t + ", " + k + ")", x.item(t, k), o.item(t, k));
        }
        checks.due("item(" + t + ", " + i + ")", x.item(t, i), o.item(t, i));
        for (int to = pick(6) - 1; to <= 4; to += 2) {
            checks.due("cast(" + t + ", " + i + ", " + to + ")", x.cast(t, i, to), o.cast(t, i, to));
        }
    }

    private void askRacks() {
        int r = pick(4) == 0 ? pick(5) - 1 : pick(3);
        int s = pick(4) == 0 ? pick(5) - 1 : pick(3);
        int i = pick(8) - 1;
        int n = pick(23) - 1;
        int k = pick(8) - 1;
        switch (pick(5)) {
            case 0, 1 -> checks.due("hang", x.hang(r, i, n), o.hang(r, i, n));
            case 2, 3 -> checks.due("hold", x.hold(r, i, k), o.hold(r, i, k));
            default -> checks.due("shift", x.shift(r, s), o.shift(r, s));
        }
        for (int j = 0; j < 6; j++) {
            int place = pick(6) == 0 ? pick(8) - 1 : pick(6);
            int what = pick(6) == 0 ? pick(4) - 1 : pick(2);
            checks.due("rack", x.rack(r, place, what), o.rack(r, place, what));
            checks.due("rack", x.rack(s, place, what), o.rack(s, place, what));
        }
    }

    private void askImage() {
        switch (pick(6)) {
            case 0 -> checks.due("image()", x.image(), o.image());
            case 1 -> checks.due("undo()", x.undo(), o.undo());
            case 2, 3 -> checks.due("drop()", x.drop(), o.drop());
            default -> checks.due("feed", x.feed(pick(260) - 100), o.feed(seedLetter()));
        }
    }

    /** The letter that pick(260) - 100 gave last. */
    private int seedLetter() {
        return (int) Math.floorMod(seed >> 24, 260L) - 100;
    }

    private void run(int number, int asks) {
        seed = number * 7919L + 17;
        begun = checks.asked();
        x = new UnitProver();
        o = new Oracle();
        if (pick(4) > 0) {
            stock(STOCKS[pick(STOCKS.length)]);
        }
        // each run has its own leaning
        int most = pick(6);
        for (int i = 0; i < asks && !spent(); i++) {
            switch (pick(2) == 0 ? most : pick(6)) {
                case 0 -> askTexts();
                case 1 -> askUnits();
                case 2 -> askClaims();
                case 3 -> askTracks();
                case 4 -> askRacks();
                default -> askImage();
            }
        }
    }

    private void stock(String[] texts) {
        for (String text : texts) {
            feedBoth(text);
            checks.due("define() of " + text, x.define(), o.define());
        }
    }

    public static void main(String[] args) {
        Checks checks = new Checks("OracleTest");
        int runs = args.length > 0 ? Integer.parseInt(args[0]) : 15000;
        OracleTest test = new OracleTest(checks);
        for (int i = 0; i < runs; i++) {
            test.run(i, 150);
        }
        checks.close();
    }
}
