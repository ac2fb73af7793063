import java.math.BigInteger;
import java.util.ArrayList;
import java.util.Arrays;
import java.util.HashSet;
import java.util.List;
import java.util.Set;
import java.util.regex.Matcher;
import java.util.regex.Pattern;

/** The document once more, by other means: big numbers, patterns and the library's own bits. */
final class Oracle {
    static final long NO = Long.MIN_VALUE;
    static final BigInteger MOST = BigInteger.valueOf(Long.MAX_VALUE);

    /** What a reckoning ends with that is OVER. */
    static final class Over extends Exception {
        private static final long serialVersionUID = 1L;
    }

    static BigInteger fit(BigInteger n) throws Over {
        if (n.abs().compareTo(MOST) > 0) {
            throw new Over();
        }
        return n;
    }

    static final class Frac {
        final BigInteger n;
        final BigInteger d;

        Frac(BigInteger n, BigInteger d) {
            BigInteger g = n.gcd(d);
            if (d.signum() < 0) {
                g = g.negate();
            }
            this.n = n.divide(g);
            this.d = d.divide(g);
        }

        static Frac of(long n, long d) {
            return new Frac(BigInteger.valueOf(n), BigInteger.valueOf(d));
        }

        Frac times(Frac o) throws Over {
            Frac r = new Frac(n.multiply(o.n), d.multiply(o.d));
            fit(r.n);
            fit(r.d);
            return r;
        }

        Frac by(Frac o) throws Over {
            return times(new Frac(o.d, o.n));
        }

        Frac sum(Frac o, int sign) throws Over {
            BigInteger w = d.gcd(o.d);
            BigInteger one = fit(n.multiply(o.d.divide(w)));
            BigInteger two = fit(o.n.multiply(d.divide(w)));
            BigInteger sum = fit(sign > 0 ? one.add(two) : one.subtract(two));
            return new Frac(sum, fit(d.multiply(o.d.divide(w))));
        }

        int cmp(Frac o) {
            return n.multiply(o.d).compareTo(o.n.multiply(d));
        }

        long part(int part) {
            return part == 0 ? n.longValueExact() : part == 1 ? d.longValueExact() : NO;
        }
    }

    static final class U {
        String name;
        int[] dim = new int[5];
        Frac factor = Frac.of(1, 1);
        Frac offset = Frac.of(0, 1);

        boolean shifted() {
            return offset.n.signum() != 0;
        }
    }

    record Cl(int x, int y, int p, int q) { }

    record St(int kind, int[] dim, Frac value) { }

    static final class Pr {
        List<St> steps = new ArrayList<>();
        int wrong = 0;
        boolean eq;
        int leftStep = -1;
        int rightStep = -1;
    }

    static final class Wrong extends Exception {
        private static final long serialVersionUID = 1L;
        final int code;

        Wrong(int code) {
            this.code = code;
        }
    }

    String tape = "";
    List<U> units = new ArrayList<>();
    List<Cl> claims = new ArrayList<>();
    List<U> keptUnits;
    List<Cl> keptClaims;
    Pr latest;
    Object[] tracks = new Object[4];
    Object[][] racks = new Object[3][6];

    Oracle() {
        for (int i = 0; i < 5; i++) {
            U u = new U();
            u.name = "" + "mgska".charAt(i);
            u.dim[i] = 1;
            units.add(u);
        }
    }

    U unit(int i) {
        return i < 0 || i >= units.size() ? null : units.get(i);
    }

    int named(String name) {
        for (int i = 0; i < units.size(); i++) {
            if (units.get(i).name.equals(name)) {
                return i;
            }
        }
        return -1;
    }

    // ---- FAULTS, by all that may go on at once

    /** The first place with which none of the pattern's texts goes on, or the length; -1 without FAULT. */
    static int fault(String text, Set<String> start, boolean formula) {
        Set<String> now = start;
        for (int i = 0; i < text.length(); i++) {
            Set<String> next = new HashSet<>();
            for (String state : now) {
                if (formula) {
                    formulaStep(state, text.charAt(i), next);
                } else {
                    definitionStep(state, text.charAt(i), next);
                }
            }
            if (next.isEmpty()) {
                return i;
            }
            now = next;
        }
        for (String state : now) {
            if (formula ? formulaEnds(state) : definitionEnds(state)) {
                return -1;
            }
        }
        return text.length();
    }

    static boolean formulaEnds(String state) {
        String[] f = state.split(" ");
        return f[0].equals("0") && partEnds(f[2], Integer.parseInt(f[3]));
    }

    static boolean partEnds(String kind, int measure) {
        return kind.equals("fig") || kind.equals("closed") || kind.equals("name")
                || (kind.equals("num") || kind.equals("dec")) && measure == 0;
    }

    /** State: depth, whether = was, kind, measure (9: none), how many of this kind. */
    static void formulaStep(String state, char c, Set<String> next) {
        String[] f = state.split(" ");
        int depth = Integer.parseInt(f[0]);
        String head = f[0] + " " + f[1] + " ";
        String kind = f[2];
        int measure = Integer.parseInt(f[3]);
        int many = Integer.parseInt(f[4]);
        boolean figure = c >= '0' && c <= '9';
        boolean letter = c >= 'a' && c <= 'z';
        boolean power = c >= '1' && c <= '4';
        switch (kind) {
            case "part" -> {
                if (figure) {
                    next.add(head + "num 0 1");
                }
                if (letter) {
                    next.add(head + "name 9 1");
                }
                if (c == '(' && depth < 4) {
                    next.add((depth + 1) + " " + f[1] + " part 0 0");
                }
            }
            case "num" -> {
                if (figure && many < 6) {
                    next.add(head + "num " + measure + " " + (many + 1));
                }
                if (c == '.') {
                    next.add(head + "dot " + measure + " 0");
                }
                if (letter) {
                    next.add(head + "name " + measure + " 1");
                }
            }
            case "dot" -> {
                if (figure) {
                    next.add(head + "dec " + measure + " 1");
                }
            }
            case "dec" -> {
                if (figure && many < 3) {
                    next.add(head + "dec " + measure + " " + (many + 1));
                }
                if (letter) {
                    next.add(head + "name " + measure + " 1");
                }
            }
            case "name" -> {
                if (letter && many < 4) {
                    next.add(head + "name " + measure + " " + (many + 1));
                }
                if (power && (measure == 0 || measure == 9)) {
                    next.add(head + "fig 0 0");
                }
                if (figure && measure < 3) {
                    next.add(head + "num " + (measure + 1) + " 1");
                }
            }
            default -> { }
        }
        if (partEnds(kind, measure)) {
            if ("+-*/".indexOf(c) >= 0) {
                next.add(head + "part 0 0");
            }
            if (c == ')' && depth > 0) {
                next.add((depth - 1) + " " + f[1] + " closed 0 0");
            }
            if (c == '=' && depth == 0 && f[1].equals("0")) {
                next.add("0 1 part 0 0");
            }
        }
    }

    static boolean definitionEnds(String state) {
        String kind = state.split(" ")[0];
        return kind.equals("pow") || kind.equals("fig") || kind.equals("off") || kind.equals("offbelow");
    }

    static void definitionStep(String state, char c, Set<String> next) {
        String[] f = state.split(" ");
        int many = Integer.parseInt(f[1]);
        boolean figure = c >= '0' && c <= '9';
        boolean letter = c >= 'a' && c <= 'z';
        switch (f[0]) {
            case "name" -> {
                if (letter && many < 4) {
                    next.add("name " + (many + 1));
                }
                if (c == '=' && many > 0) {
                    next.add("above 0");
                }
            }
            case "above", "below" -> {
                if (figure && many < 6) {
                    next.add(f[0] + " " + (many + 1));
                }
                if (c == '/' && many > 0 && f[0].equals("above")) {
                    next.add("below 0");
                }
                if (letter && many > 0) {
                    next.add("pow 1");
                }
            }
            case "before" -> {
                if (letter) {
                    next.add("pow 1");
                }
            }
            case "pow", "fig" -> {
                if (letter && f[0].equals("pow") && many < 4) {
                    next.add("pow " + (many + 1));
                }
                if (c >= '1' && c <= '4' && f[0].equals("pow")) {
                    next.add("fig 0");
                }
                if (c == '*' || c == '/') {
                    next.add("before 0");
                }
                if (c == '+' || c == '-') {
                    next.add("offstart 0");
                }
            }
            case "offstart", "off" -> {
                if (figure && many < 6) {
                    next.add("off " + (many + 1));
                }
                if (c == '/' && many > 0) {
                    next.add("offbelowstart 0");
                }
            }
            case "offbelowstart", "offbelow" -> {
                if (figure && many < 6) {
                    next.add("offbelow " + (many + 1));
                }
            }
            default -> { }
        }
    }

    // ---- units

    int feed(int letter) {
        if (letter < 1 || letter > 127) {
            return -2;
        }
        if (tape.length() == 60) {
            return -4;
        }
        tape += (char) letter;
        return tape.length();
    }

    static final Pattern DEFINITION = Pattern.compile(
            "([a-z]+)=(\\d+)(?:/(\\d+))?((?:[*/]?[a-z]+[1-4]?)+)(?:([+-])(\\d+)(?:/(\\d+))?)?");

    int define() {
        String text = tape;
        tape = "";
        int fault = fault(text, Set.of("name 0"), false);
        if (fault >= 0) {
            return -100 - fault;
        }
        Matcher m = DEFINITION.matcher(text);
        if (!m.matches()) {
            throw new IllegalStateException(text);
        }
        int above = Integer.parseInt(m.group(2));
        int below = m.group(3) == null ? 1 : Integer.parseInt(m.group(3));
        if (above == 0 || below == 0) {
            return -9;
        }
        Matcher powers = Pattern.compile("([*/]?)([a-z]+)([1-4]?)").matcher(m.group(4));
        List<int[]> rows = new ArrayList<>();
        while (powers.find()) {
            U u = unit(named(powers.group(2)));
            if (u == null) {
                return -8;
            }
            if (u.shifted()) {
                return -10;
            }
            int figure = powers.group(3).isEmpty() ? 1 : Integer.parseInt(powers.group(3));
            rows.add(new int[] {named(powers.group(2)), powers.group(1).equals("/") ? -figure : figure});
        }
        boolean told = m.group(5) != null;
        int offBelow = m.group(7) == null ? 1 : Integer.parseInt(m.group(7));
        if (told && offBelow == 0) {
            return -9;
        }
        if (named(m.group(1)) >= 0) {
            return -11;
        }
        if (told && (rows.size() != 1 || rows.get(0)[1] != 1)) {
            return -2;
        }
        U made = new U();
        made.name = m.group(1);
        for (int[] row : rows) {
            for (int i = 0; i < 5; i++) {
                made.dim[i] += units.get(row[0]).dim[i] * row[1];
            }
        }
        for (int i = 0; i < 5; i++) {
            if (Math.abs(made.dim[i]) > 9) {
                return -12;
            }
        }
        try {
            made.factor = Frac.of(above, below);
            for (int[] row : rows) {
                for (int i = 0; i < Math.abs(row[1]); i++) {
                    Frac f = units.get(row[0]).factor;
                    made.factor = row[1] > 0 ? made.factor.times(f) : made.factor.by(f);
                }
            }
        } catch (Over e) {
            return -15;
        }
        if (told) {
            long up = Long.parseLong(m.group(6));
            made.offset = Frac.of(m.group(5).equals("-") ? -up : up, offBelow);
        }
        if (units.size() == 20) {
            return -4;
        }
        units.add(made);
        return units.size() - 1;
    }

    int drop() {
        if (units.size() == 5) {
            return -3;
        }
        int gone = units.size() - 1;
        units = new ArrayList<>(units.subList(0, gone));
        claims = new ArrayList<>(claims);
        claims.removeIf(c -> c.x == gone || c.y == gone);
        return gone;
    }

    int find() {
        int n = named(tape);
        tape = "";
        return n < 0 ? -5 : n;
    }

    int name(int unit, int i) {
        U u = unit(unit);
        if (u == null || i < -1 || i >= u.name.length()) {
            return -1;
        }
        return i < 0 ? u.name.length() : u.name.charAt(i);
    }

    int power(int unit, int base) {
        U u = unit(unit);
        return u == null || base < 0 || base > 4 ? -1 : u.dim[base] + 10;
    }

    long scale(int unit, int what, int part) {
        U u = unit(unit);
        if (u == null || what != 0 && what != 1) {
            return NO;
        }
        return (what == 0 ? u.factor : u.offset).part(part);
    }

    long ratio(int x, int y, int part) {
        U a = unit(x);
        U b = unit(y);
        if (a == null || b == null || !Arrays.equals(a.dim, b.dim) || a.shifted() || b.shifted()) {
            return NO;
        }
        try {
            return b.factor.by(a.factor).part(part);
        } catch (Over e) {
            return NO;
        }
    }

    static boolean bad(int p) {
        return p < 1 || p > 999999;
    }

    int nearest(int x, int p, int q) {
        U a = unit(x);
        if (a == null) {
            return -1;
        }
        if (bad(p) || bad(q)) {
            return -2;
        }
        try {
            Frac most = a.factor.times(Frac.of(p, q));
            int best = -5;
            for (int i = units.size() - 1; i >= 0; i--) {
                U u = units.get(i);
                if (Arrays.equals(u.dim, a.dim) && u.factor.cmp(most) <= 0
                        && (best < 0 || u.factor.cmp(units.get(best).factor) >= 0)) {
                    best = i;
                }
            }
            return best;
        } catch (Over e) {
            return -5;
        }
    }

    // ---- proofs

    int prove() {
        String text = tape;
        tape = "";
        int fault = fault(text, Set.of("0 0 part 0 0"), true);
        if (fault >= 0) {
            return -100 - fault;
        }
        latest = new Pr();
        int eq = text.indexOf('=');
        latest.eq = eq >= 0;
        try {
            if (eq < 0) {
                latest.leftStep = sum(text);
            } else {
                latest.leftStep = sum(text.substring(0, eq));
                latest.rightStep = sum(text.substring(eq + 1));
                emitSum(5, latest.leftStep, latest.rightStep);
            }
        } catch (Wrong w) {
            latest.wrong = w.code;
        }
        return latest.steps.size();
    }

    /** The last place of one of the signs outside of ( ). */
    static int lastOutside(String text, String signs) {
        int depth = 0;
        for (int i = text.length() - 1; i >= 0; i--) {
            char c = text.charAt(i);
            depth += c == ')' ? 1 : c == '(' ? -1 : 0;
            if (depth == 0 && signs.indexOf(c) >= 0) {
                return i;
            }
        }
        return -1;
    }

    int emit(int kind, int[] dim, Frac value) {
        latest.steps.add(new St(kind, dim, value));
        return latest.steps.size() - 1;
    }

    int emitSum(int kind, int a, int b) throws Wrong {
        St one = latest.steps.get(a);
        St two = latest.steps.get(b);
        if (!Arrays.equals(one.dim, two.dim)) {
            throw new Wrong(-13);
        }
        try {
            return emit(kind, one.dim, one.value.sum(two.value, kind == 3 ? 1 : -1));
        } catch (Over e) {
            throw new Wrong(-15);
        }
    }

    int sum(String text) throws Wrong {
        int at = lastOutside(text, "+-");
        if (at < 0) {
            return term(text);
        }
        int a = sum(text.substring(0, at));
        int b = term(text.substring(at + 1));
        return emitSum(text.charAt(at) == '+' ? 3 : 4, a, b);
    }

    boolean standsShifted(String side) {
        Matcher m = Pattern.compile("(?:[0-9.]+)?([a-z]+)1?").matcher(side);
        return m.matches() && unit(named(m.group(1))).shifted();
    }

    static boolean beyond(int[] dim, int most) {
        return Arrays.stream(dim).anyMatch(p -> Math.abs(p) > most);
    }

    int term(String text) throws Wrong {
        int at = lastOutside(text, "*/");
        if (at < 0) {
            return part(text);
        }
        String ahead = text.substring(0, at);
        String behind = text.substring(at + 1);
        int a = term(ahead);
        int b = part(behind);
        boolean divided = text.charAt(at) == '/';
        if (standsShifted(ahead) || standsShifted(behind)) {
            throw new Wrong(-10);
        }
        St one = latest.steps.get(a);
        St two = latest.steps.get(b);
        if (divided && two.value.n.signum() == 0) {
            throw new Wrong(-9);
        }
        int[] dim = new int[5];
        for (int i = 0; i < 5; i++) {
            dim[i] = divided ? one.dim[i] - two.dim[i] : one.dim[i] + two.dim[i];
        }
        if (beyond(dim, 18)) {
            throw new Wrong(-12);
        }
        try {
            return emit(divided ? 2 : 1, dim, divided ? one.value.by(two.value) : one.value.times(two.value));
        } catch (Over e) {
            throw new Wrong(-15);
        }
    }

    static Frac number(String text) {
        int dot = text.indexOf('.');
        if (dot < 0) {
            return Frac.of(Long.parseLong(text), 1);
        }
        String rest = text.substring(dot + 1);
        return Frac.of(Long.parseLong(text.substring(0, dot) + rest), BigInteger.TEN.pow(rest.length()).longValue());
    }

    int part(String text) throws Wrong {
        if (text.startsWith("(")) {
            return sum(text.substring(1, text.length() - 1));
        }
        if (text.matches("[0-9.]+")) {
            return emit(0, new int[5], number(text));
        }
        Matcher single = Pattern.compile("([0-9.]*)([a-z]+)([1-4]?)").matcher(text);
        try {
            if (single.matches()) {
                return single(single);
            }
            return mixed(text);
        } catch (Over e) {
            throw new Wrong(-15);
        }
    }

    int single(Matcher m) throws Wrong, Over {
        U u = unit(named(m.group(2)));
        if (u == null) {
            throw new Wrong(-8);
        }
        int figure = m.group(3).isEmpty() ? 1 : Integer.parseInt(m.group(3));
        if (figure > 1 && u.shifted()) {
            throw new Wrong(-10);
        }
        int[] dim = new int[5];
        for (int i = 0; i < 5; i++) {
            dim[i] = u.dim[i] * figure;
        }
        if (beyond(dim, 18)) {
            throw new Wrong(-12);
        }
        Frac value = m.group(1).isEmpty() ? Frac.of(1, 1) : number(m.group(1));
        for (int i = 0; i < figure; i++) {
            value = value.times(u.factor);
        }
        return emit(0, dim, figure == 1 ? value.sum(u.offset, 1) : value);
    }

    int mixed(String text) throws Wrong, Over {
        Matcher m = Pattern.compile("([0-9.]+)([a-z]+)").matcher(text);
        List<U> row = new ArrayList<>();
        List<Frac> numbers = new ArrayList<>();
        while (m.find()) {
            row.add(unit(named(m.group(2))));
            numbers.add(number(m.group(1)));
        }
        if (row.contains(null)) {
            throw new Wrong(-8);
        }
        if (row.stream().anyMatch(U::shifted)) {
            throw new Wrong(-10);
        }
        if (row.stream().anyMatch(u -> !Arrays.equals(u.dim, row.get(0).dim))) {
            throw new Wrong(-13);
        }
        for (int i = 1; i < row.size(); i++) {
            if (row.get(i).factor.cmp(row.get(i - 1).factor) >= 0) {
                throw new Wrong(-14);
            }
        }
        Frac value = numbers.get(0).times(row.get(0).factor);
        for (int i = 1; i < row.size(); i++) {
            value = value.sum(numbers.get(i).times(row.get(i).factor), 1);
        }
        return emit(0, row.get(0).dim, value);
    }

    St told(int i) {
        return latest == null || i < 0 || i >= latest.steps.size() ? null : latest.steps.get(i);
    }

    int proof(int what) {
        if (latest == null) {
            return -3;
        }
        return switch (what) {
            case 0 -> latest.wrong == 0 ? 1 : latest.wrong;
            case 1 -> latest.steps.size();
            case 2 -> latest.eq ? 1 : 0;
            case 3 -> latest.eq && latest.wrong == 0
                    && latest.steps.get(latest.leftStep).value.cmp(latest.steps.get(latest.rightStep).value) == 0 ? 1 : 0;
            case 4 -> (int) latest.steps.stream().filter(s -> s.kind == 0).count();
            default -> -1;
        };
    }

    int step(int i, int what) {
        if (latest == null) {
            return -3;
        }
        St s = told(i);
        if (s == null || what < 0 || what > 6) {
            return -1;
        }
        return what == 0 ? s.kind : what == 6 ? s.value.n.signum() + 1 : s.dim[what - 1] + 100;
    }

    long value(int i, int part) {
        St s = told(i);
        return s == null ? NO : s.value.part(part);
    }

    int same(int i, int j) {
        if (latest == null) {
            return -3;
        }
        St a = told(i);
        St b = told(j);
        if (a == null || b == null) {
            return -1;
        }
        return !Arrays.equals(a.dim, b.dim) ? 0 : a.value.cmp(b.value) == 0 ? 2 : 1;
    }

    // ---- answers

    St result(int which) {
        if (latest == null || latest.wrong != 0) {
            return null;
        }
        return which == 0 ? told(latest.leftStep) : which == 1 ? told(latest.rightStep) : null;
    }

    Frac inUnit(int which, int unit) {
        St r = result(which);
        U u = unit(unit);
        if (r == null || u == null || !Arrays.equals(r.dim, u.dim)) {
            return null;
        }
        try {
            return r.value.sum(u.offset, -1).by(u.factor);
        } catch (Over e) {
            return null;
        }
    }

    long in(int which, int unit, int part) {
        Frac f = inUnit(which, unit);
        return f == null ? NO : f.part(part);
    }

    long bits(int which, int unit, int sort) {
        Frac f = inUnit(which, unit);
        if (f == null || sort != 0 && sort != 1) {
            return NO;
        }
        double d = (double) f.part(0) / (double) f.part(1);
        return sort == 1 ? Double.doubleToLongBits(d) : Float.floatToIntBits((float) d);
    }

    long parted(int a, int b, int c, int k, int part) {
        List<Integer> row = new ArrayList<>(List.of(a));
        if (b != -1 || c != -1) {
            row.add(b);
        }
        if (c != -1) {
            row.add(c);
        }
        St r = result(0);
        if (r == null || r.value.n.signum() < 0 || k < 0 || k >= row.size()) {
            return NO;
        }
        for (int i = 0; i < row.size(); i++) {
            U u = unit(row.get(i));
            if (u == null || u.shifted() || !Arrays.equals(u.dim, r.dim)
                    || i > 0 && u.factor.cmp(unit(row.get(i - 1)).factor) >= 0) {
                return NO;
            }
        }
        try {
            Frac rest = r.value;
            for (int i = 0; ; i++) {
                Frac factor = unit(row.get(i)).factor;
                Frac many = rest.by(factor);
                Frac whole = i == row.size() - 1 ? many : new Frac(many.n.divide(many.d), BigInteger.ONE);
                if (i == k) {
                    return whole.part(part);
                }
                rest = rest.sum(whole.times(factor), -1);
            }
        } catch (Over e) {
            return NO;
        }
    }

    // ---- claims

    /** The way from x to y by some CLAIMS, as numbers of CLAIMS; null if there is none. */
    List<Integer> way(int x, int y, List<Integer> by, int camefrom) {
        if (x == y) {
            return new ArrayList<>();
        }
        for (int i : by) {
            Cl c = claims.get(i);
            if (i != camefrom && (c.x == x || c.y == x)) {
                List<Integer> rest = way(c.x == x ? c.y : c.x, y, by, i);
                if (rest != null) {
                    rest.add(0, i);
                    return rest;
                }
            }
        }
        return null;
    }

    List<Integer> joining() {
        List<Integer> joins = new ArrayList<>();
        for (int i = 0; i < claims.size(); i++) {
            if (way(claims.get(i).x, claims.get(i).y, joins, -1) == null) {
                joins.add(i);
            }
        }
        return joins;
    }

    Frac along(int x, List<Integer> way) throws Over {
        Frac f = Frac.of(1, 1);
        int at = x;
        for (int i : way) {
            Cl c = claims.get(i);
            f = f.times(c.x == at ? Frac.of(c.p, c.q) : Frac.of(c.q, c.p));
            at = c.x == at ? c.y : c.x;
        }
        return f;
    }

    int claim(int x, int y, int p, int q) {
        if (unit(x) == null || unit(y) == null || x == y) {
            return -1;
        }
        if (bad(p) || bad(q)) {
            return -2;
        }
        if (claims.size() == 16) {
            return -4;
        }
        claims = new ArrayList<>(claims);
        claims.add(new Cl(x, y, p, q));
        return claims.size();
    }

    int unclaim(int i) {
        if (i < 0 || i >= claims.size()) {
            return -1;
        }
        claims = new ArrayList<>(claims);
        claims.remove(i);
        return claims.size();
    }

    int against(int i) {
        List<Integer> joins = joining();
        if (joins.contains(i)) {
            return 0;
        }
        Cl c = claims.get(i);
        try {
            return along(c.x, way(c.x, c.y, joins, -1)).cmp(Frac.of(c.p, c.q)) == 0 ? 0 : 1;
        } catch (Over e) {
            return -15;
        }
    }

    int truth(int i) {
        Cl c = claims.get(i);
        U a = unit(c.x);
        U b = unit(c.y);
        if (!Arrays.equals(a.dim, b.dim) || a.shifted() || b.shifted()) {
            return 0;
        }
        try {
            return b.factor.times(Frac.of(c.p, c.q)).cmp(a.factor) == 0 ? 1 : 0;
        } catch (Over e) {
            return -15;
        }
    }

    int claimOf(int i, int what) {
        if (i < 0 || i >= claims.size()) {
            return -1;
        }
        Cl c = claims.get(i);
        return switch (what) {
            case 0 -> c.x;
            case 1 -> c.y;
            case 2 -> c.p;
            case 3 -> c.q;
            case 4 -> against(i);
            case 5 -> truth(i);
            default -> -1;
        };
    }

    int rings(int what) {
        int against = 0;
        int truths = 0;
        boolean over = false;
        boolean truthOver = false;
        for (int i = 0; i < claims.size(); i++) {
            int v = against(i);
            over |= v == -15;
            against += v == 1 ? 1 : 0;
            int t = truth(i);
            truthOver |= t == -15;
            truths += t == 1 ? 1 : 0;
        }
        int joins = joining().size();
        return switch (what) {
            case 0 -> over ? -15 : against;
            case 1 -> over ? -15 : claims.size() - joins - against;
            case 2 -> truthOver ? -15 : truths;
            case 3 -> bunches();
            default -> -1;
        };
    }

    int bunches() {
        List<Integer> joins = joining();
        int many = 0;
        for (int i = 0; i < units.size(); i++) {
            boolean first = true;
            for (int j = 0; j < i; j++) {
                first &= way(i, j, joins, -1) == null;
            }
            many += first ? 1 : 0;
        }
        return many;
    }

    long by(int x, int y, int part) {
        if (unit(x) == null || unit(y) == null) {
            return NO;
        }
        List<Integer> way = way(x, y, joining(), -1);
        try {
            return way == null ? NO : along(x, way).part(part);
        } catch (Over e) {
            return NO;
        }
    }

    // ---- tracks

    static boolean no(int i, int most) {
        return i < 0 || i >= most;
    }

    static int length(Object row) {
        return row instanceof float[] f ? f.length : ((double[]) row).length;
    }

    int track(int track, int sort, int n) {
        if (no(track, 4)) {
            return -1;
        }
        if (sort < -1 || sort > 1 || sort >= 0 && no(n, 31)) {
            return -2;
        }
        tracks[track] = sort < 0 ? null : sort == 0 ? new float[n] : (Object) new double[n];
        return 1;
    }

    int refused(int track, int i) {
        return no(track, 4) ? -1 : tracks[track] == null ? -6 : no(i, length(tracks[track])) ? -7 : 0;
    }

    int put(int track, int i, int v) {
        int r = refused(track, i);
        if (r < 0) {
            return r;
        }
        if (tracks[track] instanceof float[] f) {
            f[i] = (float) v / 1000f;
        } else {
            ((double[]) tracks[track])[i] = (double) v / 1000d;
        }
        return 1;
    }

    int putBits(int track, int i, long bits) {
        int r = refused(track, i);
        if (r < 0) {
            return r;
        }
        if (tracks[track] instanceof float[] f) {
            f[i] = Float.intBitsToFloat((int) bits);
        } else {
            ((double[]) tracks[track])[i] = Double.longBitsToDouble(bits);
        }
        return 1;
    }

    long item(int track, int i) {
        if (refused(track, i) < 0) {
            return NO;
        }
        return tracks[track] instanceof float[] f ? Float.floatToIntBits(f[i])
                : Double.doubleToLongBits(((double[]) tracks[track])[i]);
    }

    int change(int track, int x, int y) {
        U a = unit(x);
        U b = unit(y);
        if (no(track, 4) || a == null || b == null) {
            return -1;
        }
        if (tracks[track] == null) {
            return -6;
        }
        if (!Arrays.equals(a.dim, b.dim)) {
            return -13;
        }
        long[] n = {a.factor.part(0), a.factor.part(1), a.offset.part(0), a.offset.part(1),
            b.offset.part(0), b.offset.part(1), b.factor.part(1), b.factor.part(0)};
        for (int i = 0; i < length(tracks[track]); i++) {
            if (tracks[track] instanceof float[] f) {
                f[i] = (f[i] * n[0] / n[1] + (float) n[2] / n[3] - (float) n[4] / n[5]) * n[6] / n[7];
            } else {
                double[] d = (double[]) tracks[track];
                d[i] = (d[i] * n[0] / n[1] + (double) n[2] / n[3] - (double) n[4] / n[5]) * n[6] / n[7];
            }
        }
        return length(tracks[track]);
    }

    long added(int track) {
        if (no(track, 4) || tracks[track] == null) {
            return NO;
        }
        if (tracks[track] instanceof float[] f) {
            float sum = 0;
            for (float v : f) {
                sum += v;
            }
            return Float.floatToIntBits(sum);
        }
        double sum = 0;
        for (double v : (double[]) tracks[track]) {
            sum += v;
        }
        return Double.doubleToLongBits(sum);
    }

    long cast(int track, int i, int sort) {
        if (refused(track, i) < 0 || no(sort, 4)) {
            return NO;
        }
        if (tracks[track] instanceof float[] f) {
            float v = f[i];
            return sort == 0 ? (int) v : sort == 1 ? (byte) v : sort == 2 ? (short) v : (long) v;
        }
        double v = ((double[]) tracks[track])[i];
        return sort == 0 ? (int) v : sort == 1 ? (byte) v : sort == 2 ? (short) v : (long) v;
    }

    int twin(int track, int of) {
        if (no(track, 4) || no(of, 4)) {
            return -1;
        }
        if (tracks[of] == null) {
            return -6;
        }
        tracks[track] = tracks[of] instanceof float[] f ? f.clone() : ((double[]) tracks[of]).clone();
        return length(tracks[track]);
    }

    // ---- racks

    static boolean takes(int rack, Object thing) {
        return thing == null || rack == 2 || thing instanceof Integer == (rack == 0);
    }

    int hang(int rack, int i, int unit) {
        if (no(rack, 3) || unit(unit) == null) {
            return -1;
        }
        if (no(i, 6)) {
            return -7;
        }
        if (rack == 1) {
            return -16;
        }
        racks[rack][i] = unit;
        return 1;
    }

    int hold(int rack, int i, int k) {
        if (no(rack, 3)) {
            return -1;
        }
        if (no(i, 6)) {
            return -7;
        }
        if (latest == null) {
            return -3;
        }
        if (told(k) == null) {
            return -1;
        }
        if (rack == 0) {
            return -16;
        }
        racks[rack][i] = told(k).value;
        return 1;
    }

    int rack(int rack, int i, int what) {
        if (no(rack, 3) || no(what, 2)) {
            return -1;
        }
        if (no(i, 6)) {
            return -7;
        }
        Object thing = racks[rack][i];
        if (thing == null) {
            return -6;
        }
        if (what == 0) {
            return thing instanceof Integer ? 0 : 1;
        }
        return thing instanceof Integer n ? n : ((Frac) thing).n.intValue();
    }

    int shift(int a, int b) {
        if (no(a, 3) || no(b, 3)) {
            return -1;
        }
        for (int i = 0; i < 6; i++) {
            if (!takes(b, racks[a][i])) {
                return i;
            }
            racks[b][i] = racks[a][i];
        }
        return 6;
    }

    // ---- the image

    int image() {
        keptUnits = new ArrayList<>(units);
        keptClaims = new ArrayList<>(claims);
        return units.size();
    }

    int undo() {
        if (keptUnits == null) {
            return -3;
        }
        units = new ArrayList<>(keptUnits);
        claims = new ArrayList<>(keptClaims);
        return units.size();
    }

    int count(int what) {
        return switch (what) {
            case 0 -> units.size();
            case 1 -> claims.size();
            case 2 -> tape.length();
            case 3 -> latest == null ? 0 : latest.steps.size();
            case 4 -> (int) Arrays.stream(tracks).filter(t -> t != null).count();
            case 5 -> (int) Arrays.stream(racks).flatMap(Arrays::stream).filter(t -> t != null).count();
            default -> -2;
        };
    }
}
