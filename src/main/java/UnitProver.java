/** Units, formulas proved step by step, claims, tracks and racks, as the document promises them. */
public final class UnitProver {
    public static final int NONE = -1, BAD = -2, STATE = -3, FULL = -4, NOT = -5, NOTHING = -6, BEYOND = -7, UNKNOWN = -8, NOUGHT = -9, SHIFTED = -10, TWICE = -11, WIDE = -12, UNLIKE = -13, ORDER = -14, OVER = -15, KIND = -16;
    public static final long NO = Long.MIN_VALUE;

    private static final int FINE = 0;
    private static final int FAULTS = -100;
    private static final int BASES = 5;
    private static final int MOST_UNITS = 20;
    private static final int MOST_BYTES = 60;
    private static final int MOST_CLAIMS = 16;
    private static final int MOST_TOLD = 999999;
    private static final int MOST_ITEMS = 30;
    private static final int TRACKS = 4;
    private static final int RACKS = 3;
    private static final int PLACES = 6;
    private static final int PARTED_BY = 3;

    private final Tape tape = new Tape();
    private final Units units = new Units();
    private final Claims claims = new Claims();
    private final Units keptUnits = new Units();
    private final Claims keptClaims = new Claims();
    private boolean kept;
    private final Definition definition = new Definition();
    private Proof latest = new Proof();
    private Proof draft = new Proof();
    private boolean proved;
    private final Track[] tracks = new Track[TRACKS];
    private final Rack[] racks = new Rack[RACKS];
    private final FloatBits floats = new FloatBits();
    private final Fraction answer = new Fraction();
    private final Fraction left = new Fraction();
    private final Unit[] splitters = new Unit[PARTED_BY];

    public UnitProver() {
        units.addBases();
        for (int i = 0; i < TRACKS; i++) {
            tracks[i] = new Track();
        }
        for (int i = 0; i < RACKS; i++) {
            racks[i] = new Rack(i);
        }
    }

    // ---- units

    public int feed(int letter) {
        if (letter < 1 || letter > 127) {
            return BAD;
        }
        return tape.append(letter) ? tape.length : FULL;
    }

    public int define() {
        int said = definition.read(tape) ? definition.addTo(units, tape) : FAULTS - tape.at;
        tape.clear();
        return said;
    }

    public int drop() {
        if (units.size <= BASES) {
            return STATE;
        }
        units.size--;
        claims.removeOf(units.size);
        return units.size;
    }

    public int find() {
        int number = units.numberOf(tape, 0, tape.length);
        tape.clear();
        return number < 0 ? NOT : number;
    }

    public int name(int unit, int i) {
        Unit told = units.at(unit);
        if (told == null || i < -1 || i >= told.length) {
            return NONE;
        }
        return i == -1 ? told.length : told.letters[i];
    }

    public int power(int unit, int base) {
        Unit told = units.at(unit);
        if (told == null || base < 0 || base >= BASES) {
            return NONE;
        }
        return told.powers[base] + 10;
    }

    public long scale(int unit, int what, int part) {
        Unit told = units.at(unit);
        if (told == null || what < 0 || what > 1) {
            return NO;
        }
        return what == 0 ? told.factor.part(part) : told.offset.part(part);
    }

    public long ratio(int x, int y, int part) {
        Unit one = units.at(x);
        Unit other = units.at(y);
        if (one == null || other == null || !one.isLike(other) || one.hasOffset() || other.hasOffset()) {
            return NO;
        }
        answer.copy(other.factor);
        return answer.divide(one.factor) ? answer.part(part) : NO;
    }

    public int nearest(int x, int p, int q) {
        Unit one = units.at(x);
        if (one == null) {
            return NONE;
        }
        if (!isTold(p) || !isTold(q)) {
            return BAD;
        }
        answer.set(p, q);
        return answer.multiply(one.factor) ? units.nearestBelow(one, answer) : NOT;
    }

    // ---- proofs

    public int prove() {
        boolean reads = draft.read(tape);
        if (reads) {
            draft.proveAll(tape, units);
            Proof old = latest;
            latest = draft;
            draft = old;
            proved = true;
        }
        int said = reads ? latest.held : FAULTS - tape.at;
        tape.clear();
        return said;
    }

    public int proof(int what) {
        if (!proved) {
            return STATE;
        }
        switch (what) {
            case 0:
                return latest.isHeld() ? 1 : latest.wrong;
            case 1:
                return latest.held;
            case 2:
                return latest.hasSides ? 1 : 0;
            case 3:
                return latest.sidesAgree() ? 1 : 0;
            case 4:
                return latest.heldParts();
            default:
                return NONE;
        }
    }

    public int step(int i, int what) {
        if (!proved) {
            return STATE;
        }
        Step told = latest.heldStep(i);
        if (told == null || what < 0 || what > 6) {
            return NONE;
        }
        if (what == 0) {
            return told.kind;
        }
        return what == 6 ? Long.compare(told.value.above, 0) + 1 : told.powers[what - 1] + 100;
    }

    public long value(int i, int part) {
        Step told = provedStep(i);
        return told == null ? NO : told.value.part(part);
    }

    public int same(int i, int j) {
        if (!proved) {
            return STATE;
        }
        Step one = latest.heldStep(i);
        Step other = latest.heldStep(j);
        if (one == null || other == null) {
            return NONE;
        }
        if (!equalRows(one.powers, other.powers)) {
            return 0;
        }
        return one.value.compareWith(other.value) == 0 ? 2 : 1;
    }

    // ---- answers

    public long in(int which, int unit, int part) {
        return answerIn(which, unit) ? answer.part(part) : NO;
    }

    public long bits(int which, int unit, int sort) {
        if (sort < 0 || sort > 1 || !answerIn(which, unit)) {
            return NO;
        }
        double worth = answer.asDouble();
        return sort == 1 ? floats.ofDouble(worth) : floats.ofFloat((float) worth);
    }

    public long parted(int a, int b, int c, int k, int part) {
        if (b == -1 && c != -1) {
            return NO;
        }
        int many = b == -1 ? 1 : c == -1 ? 2 : 3;
        splitters[0] = units.at(a);
        splitters[1] = units.at(b);
        splitters[2] = units.at(c);
        Step result = resultSide(0);
        if (k < 0 || k >= many || result == null || result.value.above < 0 || !splits(result, many)) {
            return NO;
        }
        return partOf(result, many, k) ? answer.part(part) : NO;
    }

    // ---- claims

    public int claim(int x, int y, int p, int q) {
        if (units.at(x) == null || units.at(y) == null || x == y) {
            return NONE;
        }
        if (!isTold(p) || !isTold(q)) {
            return BAD;
        }
        return claims.append(x, y, p, q) ? claims.size : FULL;
    }

    public int unclaim(int i) {
        if (i < 0 || i >= claims.size) {
            return NONE;
        }
        claims.remove(i);
        return claims.size;
    }

    public int claimOf(int i, int what) {
        if (i < 0 || i >= claims.size) {
            return NONE;
        }
        switch (what) {
            case 0:
                return claims.x[i];
            case 1:
                return claims.y[i];
            case 2:
                return claims.p[i];
            case 3:
                return claims.q[i];
            case 4:
                return claims.verdicts[i];
            case 5:
                return truthOf(i);
            default:
                return NONE;
        }
    }

    public int rings(int what) {
        switch (what) {
            case 0:
                return claims.isOver() ? OVER : claims.against();
            case 1:
                return claims.isOver() ? OVER : claims.size - claims.joining() - claims.against();
            case 2:
                return trueClaims();
            case 3:
                // a CLAIM that JOINS makes one bunch of two
                return units.size - claims.joining();
            default:
                return NONE;
        }
    }

    public long by(int x, int y, int part) {
        if (units.at(x) == null || units.at(y) == null) {
            return NO;
        }
        return claims.goFrom(x, y) == FINE ? claims.way.part(part) : NO;
    }

    // ---- tracks

    public int track(int track, int sort, int n) {
        Track told = trackAt(track);
        if (told == null) {
            return NONE;
        }
        if (sort < -1 || sort > 1 || sort >= 0 && (n < 0 || n > MOST_ITEMS)) {
            return BAD;
        }
        told.become(sort, sort < 0 ? 0 : n);
        return 1;
    }

    public int put(int track, int i, int v) {
        int refusal = itemRefusal(track, i);
        if (refusal != FINE) {
            return refusal;
        }
        Track told = tracks[track];
        told.store(i, told.sort == 0 ? (float) v / 1000f : (double) v / 1000.0);
        return 1;
    }

    public int putBits(int track, int i, long bits) {
        int refusal = itemRefusal(track, i);
        if (refusal != FINE) {
            return refusal;
        }
        tracks[track].storeBits(i, bits, floats);
        return 1;
    }

    public long item(int track, int i) {
        if (itemRefusal(track, i) != FINE) {
            return NO;
        }
        Track told = tracks[track];
        return told.bitsOf(told.items[i], told.odd[i], floats);
    }

    public int change(int track, int x, int y) {
        Track told = trackAt(track);
        Unit from = units.at(x);
        Unit to = units.at(y);
        if (told == null || from == null || to == null) {
            return NONE;
        }
        if (told.isNothing()) {
            return NOTHING;
        }
        if (!from.isLike(to)) {
            return UNLIKE;
        }
        told.convert(from, to);
        return told.size;
    }

    public long added(int track) {
        Track told = trackAt(track);
        if (told == null || told.isNothing()) {
            return NO;
        }
        return told.sumBits(floats);
    }

    public long cast(int track, int i, int sort) {
        if (itemRefusal(track, i) != FINE) {
            return NO;
        }
        double item = tracks[track].number(i);
        switch (sort) {
            case 0:
                return (int) item;
            case 1:
                return (byte) item;
            case 2:
                return (short) item;
            case 3:
                return (long) item;
            default:
                return NO;
        }
    }

    public int twin(int track, int of) {
        Track told = trackAt(track);
        Track other = trackAt(of);
        if (told == null || other == null) {
            return NONE;
        }
        if (other.isNothing()) {
            return NOTHING;
        }
        told.copy(other);
        return told.size;
    }

    // ---- racks

    public int hang(int rack, int i, int unit) {
        Rack told = rackAt(rack);
        if (told == null || units.at(unit) == null) {
            return NONE;
        }
        if (!isPlace(i)) {
            return BEYOND;
        }
        return told.store(i, Rack.UNIT, unit) ? 1 : KIND;
    }

    public int hold(int rack, int i, int k) {
        Rack told = rackAt(rack);
        if (told == null) {
            return NONE;
        }
        if (!isPlace(i)) {
            return BEYOND;
        }
        if (!proved) {
            return STATE;
        }
        Step held = latest.heldStep(k);
        if (held == null) {
            return NONE;
        }
        return told.store(i, Rack.FRACTION, held.value.above) ? 1 : KIND;
    }

    public int rack(int rack, int i, int what) {
        Rack told = rackAt(rack);
        if (told == null || what < 0 || what > 1) {
            return NONE;
        }
        if (!isPlace(i)) {
            return BEYOND;
        }
        if (told.kinds[i] == Rack.EMPTY) {
            return NOTHING;
        }
        return what == 0 ? told.kinds[i] : (int) told.numbers[i];
    }

    public int shift(int a, int b) {
        Rack from = rackAt(a);
        Rack to = rackAt(b);
        if (from == null || to == null) {
            return NONE;
        }
        for (int i = 0; i < PLACES; i++) {
            if (!to.store(i, from.kinds[i], from.numbers[i])) {
                return i;
            }
        }
        return PLACES;
    }

    // ---- the image

    public int image() {
        keptUnits.copy(units);
        keptClaims.copy(claims);
        kept = true;
        return units.size;
    }

    public int undo() {
        if (!kept) {
            return STATE;
        }
        units.copy(keptUnits);
        claims.copy(keptClaims);
        return units.size;
    }

    public int count(int what) {
        switch (what) {
            case 0:
                return units.size;
            case 1:
                return claims.size;
            case 2:
                return tape.length;
            case 3:
                return latest.held;
            case 4:
                return filledTracks();
            case 5:
                return filledPlaces();
            default:
                return BAD;
        }
    }

    // ---- what several calls use

    private static boolean isTold(int number) {
        return number >= 1 && number <= MOST_TOLD;
    }

    private static boolean isPlace(int i) {
        return i >= 0 && i < PLACES;
    }

    private static boolean equalRows(int[] one, int[] other) {
        for (int i = 0; i < BASES; i++) {
            if (one[i] != other[i]) {
                return false;
            }
        }
        return true;
    }

    private static boolean goesBeyond(int[] powers, int most) {
        for (int i = 0; i < BASES; i++) {
            if (Math.abs(powers[i]) > most) {
                return true;
            }
        }
        return false;
    }

    private Step provedStep(int i) {
        return proved ? latest.heldStep(i) : null;
    }

    private Step resultSide(int which) {
        return proved ? latest.side(which) : null;
    }

    /** Puts RESULT IN a UNIT into answer; false where it has none. */
    private boolean answerIn(int which, int unit) {
        Unit told = units.at(unit);
        Step result = resultSide(which);
        if (told == null || result == null || !equalRows(result.powers, told.powers)) {
            return false;
        }
        answer.copy(result.value);
        return answer.subtract(told.offset) && answer.divide(told.factor);
    }

    /** Whether a result may be PARTED by the first of splitters. */
    private boolean splits(Step result, int many) {
        Unit ahead = null;
        for (int i = 0; i < many && i < PARTED_BY; i++) {
            Unit next = splitters[i];
            if (next == null || next.hasOffset() || !equalRows(next.powers, result.powers)) {
                return false;
            }
            if (ahead != null && next.factor.compareWith(ahead.factor) >= 0) {
                return false;
            }
            ahead = next;
        }
        return true;
    }

    /** Puts the k-th number of a result PARTED into answer; false where it is OVER. */
    private boolean partOf(Step result, int many, int k) {
        left.copy(result.value);
        for (int i = 0; i <= k && i < PARTED_BY; i++) {
            Unit next = splitters[i];
            if (next == null) {
                return false;
            }
            answer.copy(left);
            if (!answer.divide(next.factor)) {
                return false;
            }
            if (i < many - 1) {
                answer.cutToWhole();
            }
            if (i == k) {
                return true;
            }
            if (!answer.multiply(next.factor) || !left.subtract(answer)) {
                return false;
            }
        }
        return false;
    }

    /** Whether a CLAIM is TRUE: 1, 0, or OVER. */
    private int truthOf(int i) {
        Unit one = units.at(claims.x[i]);
        Unit other = units.at(claims.y[i]);
        if (one == null || other == null || !one.isLike(other) || one.hasOffset() || other.hasOffset()) {
            return 0;
        }
        answer.set(claims.p[i], claims.q[i]);
        if (!answer.multiply(other.factor)) {
            return OVER;
        }
        return answer.compareWith(one.factor) == 0 ? 1 : 0;
    }

    private int trueClaims() {
        int many = 0;
        for (int i = 0; i < claims.size; i++) {
            int truth = truthOf(i);
            if (truth == OVER) {
                return OVER;
            }
            many += truth;
        }
        return many;
    }

    private Track trackAt(int track) {
        return track < 0 || track >= TRACKS ? null : tracks[track];
    }

    private Rack rackAt(int rack) {
        return rack < 0 || rack >= RACKS ? null : racks[rack];
    }

    private int itemRefusal(int track, int i) {
        Track told = trackAt(track);
        if (told == null) {
            return NONE;
        }
        if (told.isNothing()) {
            return NOTHING;
        }
        return i < 0 || i >= told.size ? BEYOND : FINE;
    }

    private int filledTracks() {
        int many = 0;
        for (int i = 0; i < TRACKS; i++) {
            many += tracks[i].isNothing() ? 0 : 1;
        }
        return many;
    }

    private int filledPlaces() {
        int many = 0;
        for (int i = 0; i < RACKS; i++) {
            many += racks[i].filled();
        }
        return many;
    }

    /** A FRACTION that its calls change; a call that is OVER answers false and leaves it as it was. */
    private static final class Fraction {
        static final int MOST_DIVISIONS = 200;

        long above = 0;
        long below = 1;

        void copy(Fraction other) {
            above = other.above;
            below = other.below;
        }

        /** Becomes up by down (1 or more) in lowest terms. */
        void set(long up, long down) {
            long shared = commonDivisor(up, down);
            above = up / shared;
            below = down / shared;
        }

        void cutToWhole() {
            if (below != 0) {
                above = above / below;
                below = 1;
            }
        }

        long part(int part) {
            return part == 0 ? above : part == 1 ? below : NO;
        }

        double asDouble() {
            return (double) above / (double) below;
        }

        boolean multiply(Fraction other) {
            return multiplyBy(other.above, other.below);
        }

        boolean divide(Fraction other) {
            if (other.above == 0) {
                return false;
            }
            return other.above < 0 ? multiplyBy(-other.below, -other.above) : multiplyBy(other.below, other.above);
        }

        /** By up by down in lowest terms; reduced crosswise first, so that only the result's numbers have to be longs. */
        boolean multiplyBy(long up, long down) {
            long falling = commonDivisor(above, down);
            long rising = commonDivisor(up, below);
            long newAbove = product(above / falling, up / rising);
            long newBelow = product(below / rising, down / falling);
            if (newAbove == NO || newBelow == NO) {
                return false;
            }
            above = newAbove;
            below = newBelow;
            return true;
        }

        boolean add(Fraction other) {
            return addUp(other.above, other.below);
        }

        boolean subtract(Fraction other) {
            return addUp(-other.above, other.below);
        }

        private boolean addUp(long up, long down) {
            long shared = commonDivisor(below, down);
            long sum = total(product(above, down / shared), product(up, below / shared));
            long newBelow = product(below, down / shared);
            if (sum == NO || newBelow == NO) {
                return false;
            }
            long common = commonDivisor(sum, newBelow);
            above = sum / common;
            below = newBelow / common;
            return true;
        }

        /** -1, 0 or 1, by whole parts one behind the other, since products might be no longs. */
        int compareWith(Fraction other) {
            long a = above;
            long b = below;
            long c = other.above;
            long d = other.below;
            int sign = 1;
            for (int i = 0; i < MOST_DIVISIONS && b > 0 && d > 0; i++) {
                long whole = Math.floorDiv(a, b);
                long otherWhole = Math.floorDiv(c, d);
                if (whole != otherWhole) {
                    return whole < otherWhole ? -sign : sign;
                }
                long rest = a - whole * b;
                long otherRest = c - otherWhole * d;
                a = b;
                b = rest;
                c = d;
                d = otherRest;
                // the rests are compared turned over
                sign = -sign;
            }
            // a rest of 0 turned over is the greatest there is
            return b == d ? 0 : b == 0 ? sign : -sign;
        }

        /** 1 or more always, so that it can divide. */
        private static long commonDivisor(long one, long other) {
            long a = one < 0 ? -one : one;
            long b = other < 0 ? -other : other;
            for (int i = 0; i < MOST_DIVISIONS && b != 0; i++) {
                long rest = a % b;
                a = b;
                b = rest;
            }
            return a < 1 ? 1 : a;
        }

        /** NO where it is no long, which the least long counts for, too. */
        private static long product(long one, long other) {
            if (one == 0 || other == 0) {
                return 0;
            }
            long result = one * other;
            return result / one == other ? result : NO;
        }

        private static long total(long one, long other) {
            if (one == NO || other == NO) {
                return NO;
            }
            long sum = one + other;
            return ((one ^ sum) & (other ^ sum)) < 0 ? NO : sum;
        }
    }

    /** THE TAPE, and the place up to which it has been read. */
    private static final class Tape {
        static final int MOST_LETTERS = 4;
        static final int MOST_FIGURES = 6;

        final byte[] bytes = new byte[MOST_BYTES];
        int length = 0;
        int at = 0;

        boolean append(int letter) {
            if (length >= MOST_BYTES) {
                return false;
            }
            bytes[length] = (byte) letter;
            length++;
            return true;
        }

        void clear() {
            length = 0;
            at = 0;
        }

        /** The byte so far ahead; 0, which is no byte of THE TAPE, behind its end. */
        int look(int ahead) {
            int place = at + ahead;
            return place < 0 || place >= length ? 0 : bytes[place];
        }

        /** Whether some letters are those of THE TAPE from a place on. */
        boolean holds(byte[] letters, int letterCount, int from) {
            if (from < 0 || from + letterCount > length || letterCount > letters.length) {
                return false;
            }
            for (int i = 0; i < letterCount; i++) {
                if (bytes[from + i] != letters[i]) {
                    return false;
                }
            }
            return true;
        }

        boolean isAtEnd() {
            return at >= length;
        }

        boolean takes(int letter) {
            if (look(0) != letter) {
                return false;
            }
            at++;
            return true;
        }

        boolean isFigure(int ahead) {
            int letter = look(ahead);
            return letter >= '0' && letter <= '9';
        }

        boolean isLetter(int ahead) {
            int letter = look(ahead);
            return letter >= 'a' && letter <= 'z';
        }

        /** Reads a NAME: how many letters it has, 0 if there is none. */
        int takeName() {
            int letters = 0;
            while (letters < MOST_LETTERS && isLetter(0)) {
                letters++;
                at++;
            }
            return letters;
        }

        /** Reads 1 to 6 figures: the number; -1 if there is none. */
        int takeNumber() {
            if (!isFigure(0)) {
                return -1;
            }
            int number = 0;
            for (int i = 0; i < MOST_FIGURES && isFigure(0); i++) {
                number = number * 10 + takeFigure();
            }
            return number;
        }

        /** Goes behind a byte that is known for a figure: what it is worth. */
        int takeFigure() {
            at++;
            return look(-1) - '0';
        }

        boolean isPower() {
            return look(0) >= '1' && look(0) <= '4';
        }

        /** Reads a figure 1 .. 4; 1 if there is none. */
        int takePower() {
            return isPower() ? takeFigure() : 1;
        }
    }

    private static final class Unit {
        final byte[] letters = new byte[Tape.MOST_LETTERS];
        int length = 0;
        final int[] powers = new int[BASES];
        final Fraction factor = new Fraction();
        final Fraction offset = new Fraction();

        boolean hasOffset() {
            return offset.above != 0;
        }

        boolean isLike(Unit other) {
            return equalRows(powers, other.powers);
        }

        boolean isNamed(Tape tape, int from, int letterCount) {
            return letterCount == length && tape.holds(letters, length, from);
        }

        /** Takes its NAME from THE TAPE's first bytes. */
        void takeName(Tape tape, int letterCount) {
            length = Math.min(letterCount, Tape.MOST_LETTERS);
            System.arraycopy(tape.bytes, 0, letters, 0, length);
        }

        void copy(Unit other) {
            length = other.length;
            System.arraycopy(other.letters, 0, letters, 0, Tape.MOST_LETTERS);
            System.arraycopy(other.powers, 0, powers, 0, BASES);
            factor.copy(other.factor);
            offset.copy(other.offset);
        }
    }

    private static final class Units {
        static final String BASE_NAMES = "mgska";

        final Unit[] rows = new Unit[MOST_UNITS];
        int size = 0;

        Units() {
            for (int i = 0; i < MOST_UNITS; i++) {
                rows[i] = new Unit();
            }
        }

        void addBases() {
            for (int i = 0; i < BASES; i++) {
                Unit base = rows[i];
                base.letters[0] = (byte) BASE_NAMES.charAt(i);
                base.length = 1;
                base.powers[i] = 1;
                base.factor.set(1, 1);
            }
            size = BASES;
        }

        Unit at(int i) {
            return i < 0 || i >= size || i >= MOST_UNITS ? null : rows[i];
        }

        int numberOf(Tape tape, int from, int letterCount) {
            for (int i = 0; i < size && i < MOST_UNITS; i++) {
                if (rows[i].isNamed(tape, from, letterCount)) {
                    return i;
                }
            }
            return NONE;
        }

        /** The number that a copy of a UNIT gets; FULL. */
        int append(Unit made) {
            if (size >= MOST_UNITS) {
                return FULL;
            }
            rows[size].copy(made);
            size++;
            return size - 1;
        }

        /** Of those like one the UNIT of the greatest FACTOR up to most; NOT. */
        int nearestBelow(Unit one, Fraction most) {
            int best = NOT;
            for (int i = 0; i < size && i < MOST_UNITS; i++) {
                Unit next = rows[i];
                if (next.isLike(one) && next.factor.compareWith(most) <= 0
                        && (best < 0 || next.factor.compareWith(rows[best].factor) > 0)) {
                    best = i;
                }
            }
            return best;
        }

        void copy(Units other) {
            size = other.size;
            for (int i = 0; i < size && i < MOST_UNITS; i++) {
                rows[i].copy(other.rows[i]);
            }
        }
    }

    /** A DEFINITION as it is read from THE TAPE, and the UNIT that it makes. */
    private static final class Definition {
        static final int MOST_POWERS = 30;
        static final int WIDEST = 9;

        final int[] ratio = new int[2];
        final int[] offset = new int[2];
        boolean hasOffset;
        int offsetSign;
        int nameLength;
        int powerCount;
        final int[] nameAt = new int[MOST_POWERS];
        final int[] nameLengths = new int[MOST_POWERS];
        final int[] figures = new int[MOST_POWERS];
        final boolean[] divided = new boolean[MOST_POWERS];
        final Unit[] found = new Unit[MOST_POWERS];
        final Unit made = new Unit();

        /** Whether THE TAPE is without FAULT; else it stays at the FAULT. */
        boolean read(Tape tape) {
            tape.at = 0;
            hasOffset = false;
            nameLength = tape.takeName();
            if (nameLength == 0 || !tape.takes('=') || !readRatio(tape, ratio) || !readProduct(tape)) {
                return false;
            }
            offsetSign = tape.look(0) == '-' ? -1 : 1;
            hasOffset = tape.takes('+') || tape.takes('-');
            if (hasOffset && !readRatio(tape, offset)) {
                return false;
            }
            return tape.isAtEnd();
        }

        private static boolean readRatio(Tape tape, int[] pair) {
            pair[0] = tape.takeNumber();
            pair[1] = 1;
            if (pair[0] >= 0 && tape.takes('/')) {
                pair[1] = tape.takeNumber();
            }
            return pair[0] >= 0 && pair[1] >= 0;
        }

        private boolean readProduct(Tape tape) {
            boolean isBehindSlash = false;
            for (int i = 0; i < MOST_POWERS; i++) {
                divided[i] = isBehindSlash;
                nameAt[i] = tape.at;
                nameLengths[i] = tape.takeName();
                if (nameLengths[i] == 0) {
                    return false;
                }
                figures[i] = tape.takePower();
                powerCount = i + 1;
                isBehindSlash = tape.look(0) == '/';
                if (!tape.takes('*') && !tape.takes('/')) {
                    return true;
                }
            }
            return false;
        }

        /** The number of the UNIT that this makes of what was read; else why it is refused. */
        int addTo(Units units, Tape tape) {
            int refusal = partsRefusal(units, tape);
            if (refusal != FINE) {
                return refusal;
            }
            if (units.numberOf(tape, 0, nameLength) >= 0) {
                return TWICE;
            }
            if (hasOffset && (powerCount != 1 || figures[0] != 1)) {
                return BAD;
            }
            makeDimension();
            if (goesBeyond(made.powers, WIDEST)) {
                return WIDE;
            }
            if (!makeFactor()) {
                return OVER;
            }
            made.takeName(tape, nameLength);
            made.offset.set(hasOffset ? (long) offsetSign * offset[0] : 0, hasOffset ? offset[1] : 1);
            return units.append(made);
        }

        /** The refusals that hang on a place, from the left on; finds the UNITS, too. */
        private int partsRefusal(Units units, Tape tape) {
            if (ratio[0] == 0 || ratio[1] == 0) {
                return NOUGHT;
            }
            for (int i = 0; i < powerCount && i < MOST_POWERS; i++) {
                found[i] = units.at(units.numberOf(tape, nameAt[i], nameLengths[i]));
                if (found[i] == null) {
                    return UNKNOWN;
                }
                if (found[i].hasOffset()) {
                    return SHIFTED;
                }
            }
            return hasOffset && offset[1] == 0 ? NOUGHT : FINE;
        }

        private void makeDimension() {
            for (int base = 0; base < BASES; base++) {
                int power = 0;
                for (int i = 0; i < powerCount && i < MOST_POWERS; i++) {
                    int more = found[i].powers[base] * figures[i];
                    power += divided[i] ? -more : more;
                }
                made.powers[base] = power;
            }
        }

        private boolean makeFactor() {
            made.factor.set(ratio[0], ratio[1]);
            for (int i = 0; i < powerCount && i < MOST_POWERS; i++) {
                Fraction next = found[i].factor;
                for (int times = 0; times < figures[i]; times++) {
                    if (!(divided[i] ? made.factor.divide(next) : made.factor.multiply(next))) {
                        return false;
                    }
                }
            }
            return true;
        }
    }

    /** A STEP: a PART as it stands on THE TAPE, or two sides with a sign between them. */
    private static final class Step {
        static final int PART = 0;
        static final int TIMES = 1;
        static final int DIVIDED = 2;
        static final int PLUS = 3;
        static final int MINUS = 4;
        static final int EQUALS = 5;
        static final int MOST_MEASURES = 4;

        int kind;
        Step leftSide;
        Step rightSide;
        boolean isEnclosed;
        boolean isShifted;
        int measures;
        int figure;
        final int[] above = new int[MOST_MEASURES];
        final int[] below = new int[MOST_MEASURES];
        final int[] nameAt = new int[MOST_MEASURES];
        final int[] nameLengths = new int[MOST_MEASURES];
        final int[] powers = new int[BASES];
        final Fraction value = new Fraction();

        void start(int ofKind, Step left, Step right) {
            kind = ofKind;
            leftSide = left;
            rightSide = right;
            isEnclosed = false;
            isShifted = false;
            measures = 0;
            figure = 1;
            for (int i = 0; i < BASES; i++) {
                powers[i] = 0;
            }
        }

        /** Whether it may be on no side of * or /. */
        boolean isShiftedItself() {
            return isShifted && !isEnclosed;
        }

        /** Reads NUMBER, MEASURE, MIXED or NAME; false at a FAULT. */
        boolean read(Tape tape) {
            if (!tape.isFigure(0)) {
                above[0] = 1;
                below[0] = 1;
                if (!readName(tape, 0)) {
                    return false;
                }
                figure = tape.takePower();
                return true;
            }
            for (int i = 0; i < MOST_MEASURES; i++) {
                if (!readNumber(tape, i)) {
                    return false;
                }
                if (!readName(tape, i)) {
                    return i == 0;
                }
                if (i == 0 && endsByFigure(tape)) {
                    figure = tape.takePower();
                    return true;
                }
                if (!tape.isFigure(0)) {
                    return true;
                }
            }
            return true;
        }

        private static boolean endsByFigure(Tape tape) {
            return tape.isPower() && !tape.isFigure(1) && !tape.isLetter(1) && tape.look(1) != '.';
        }

        private boolean readName(Tape tape, int i) {
            nameAt[i] = tape.at;
            nameLengths[i] = tape.takeName();
            if (nameLengths[i] == 0) {
                return false;
            }
            measures = i + 1;
            return true;
        }

        private boolean readNumber(Tape tape, int i) {
            above[i] = tape.takeNumber();
            below[i] = 1;
            if (above[i] < 0) {
                return false;
            }
            if (!tape.takes('.')) {
                return true;
            }
            for (int places = 0; places < 3 && tape.isFigure(0); places++) {
                above[i] = above[i] * 10 + tape.takeFigure();
                below[i] = below[i] * 10;
            }
            return below[i] > 1;
        }

        /** FINE, or by what it is WRONG; found are the UNITS of a PART. */
        int judge(Unit[] found, Fraction spare) {
            if (leftSide == null || rightSide == null) {
                return measures > 1 ? judgeMixed(found, spare) : judgeSingle(found[0]);
            }
            return kind == TIMES || kind == DIVIDED ? judgeProduct() : judgeSum();
        }

        private int judgeSingle(Unit unit) {
            value.set(above[0], below[0]);
            if (measures == 0 || unit == null) {
                return FINE;
            }
            isShifted = unit.hasOffset();
            if (isShifted && figure > 1) {
                return SHIFTED;
            }
            for (int i = 0; i < BASES; i++) {
                powers[i] = unit.powers[i] * figure;
            }
            if (goesBeyond(powers, Proof.WIDEST)) {
                return WIDE;
            }
            for (int i = 0; i < figure; i++) {
                if (!value.multiply(unit.factor)) {
                    return OVER;
                }
            }
            return value.add(unit.offset) ? FINE : OVER;
        }

        private int judgeMixed(Unit[] found, Fraction spare) {
            int refusal = mixedRefusal(found);
            if (refusal != FINE) {
                return refusal;
            }
            System.arraycopy(found[0].powers, 0, powers, 0, BASES);
            value.set(0, 1);
            for (int i = 0; i < measures && i < MOST_MEASURES; i++) {
                spare.set(above[i], below[i]);
                if (!spare.multiply(found[i].factor) || !value.add(spare)) {
                    return OVER;
                }
            }
            return FINE;
        }

        /** One row for each refusal, since an earlier one counts first wherever it stands in MIXED. */
        private int mixedRefusal(Unit[] found) {
            for (int i = 0; i < measures && i < MOST_MEASURES; i++) {
                if (found[i].hasOffset()) {
                    return SHIFTED;
                }
            }
            for (int i = 1; i < measures && i < MOST_MEASURES; i++) {
                if (!found[i].isLike(found[0])) {
                    return UNLIKE;
                }
            }
            for (int i = 1; i < measures && i < MOST_MEASURES; i++) {
                if (found[i].factor.compareWith(found[i - 1].factor) >= 0) {
                    return ORDER;
                }
            }
            return FINE;
        }

        private int judgeProduct() {
            boolean divides = kind == DIVIDED;
            if (leftSide.isShiftedItself() || rightSide.isShiftedItself()) {
                return SHIFTED;
            }
            if (divides && rightSide.value.above == 0) {
                return NOUGHT;
            }
            for (int i = 0; i < BASES; i++) {
                powers[i] = leftSide.powers[i] + (divides ? -rightSide.powers[i] : rightSide.powers[i]);
            }
            if (goesBeyond(powers, Proof.WIDEST)) {
                return WIDE;
            }
            value.copy(leftSide.value);
            boolean fits = divides ? value.divide(rightSide.value) : value.multiply(rightSide.value);
            return fits ? FINE : OVER;
        }

        private int judgeSum() {
            if (!equalRows(leftSide.powers, rightSide.powers)) {
                return UNLIKE;
            }
            System.arraycopy(leftSide.powers, 0, powers, 0, BASES);
            value.copy(leftSide.value);
            boolean fits = kind == PLUS ? value.add(rightSide.value) : value.subtract(rightSide.value);
            return fits ? FINE : OVER;
        }
    }

    /** A FORMULA as the row of its STEPS, and how far they hold. */
    private static final class Proof {
        static final int WIDEST = 18;
        static final int DEEPEST = 4;

        final Step[] steps = new Step[MOST_BYTES];
        int size = 0;
        int held = 0;
        int wrong = FINE;
        boolean hasSides = false;
        final Unit[] found = new Unit[Step.MOST_MEASURES];
        final Fraction spare = new Fraction();

        Proof() {
            for (int i = 0; i < MOST_BYTES; i++) {
                steps[i] = new Step();
            }
        }

        boolean isHeld() {
            return wrong == FINE;
        }

        Step heldStep(int i) {
            return i < 0 || i >= held || i >= MOST_BYTES ? null : steps[i];
        }

        /** A side of RESULT; null where there is none. */
        Step side(int which) {
            Step last = heldStep(held - 1);
            if (last == null || !isHeld() || which < 0 || which > 1) {
                return null;
            }
            if (!hasSides) {
                return which == 0 ? last : null;
            }
            return which == 0 ? last.leftSide : last.rightSide;
        }

        boolean sidesAgree() {
            Step last = heldStep(held - 1);
            return last != null && isHeld() && hasSides && last.value.above == 0;
        }

        int heldParts() {
            int many = 0;
            for (int i = 0; i < held && i < MOST_BYTES; i++) {
                many += steps[i].kind == Step.PART ? 1 : 0;
            }
            return many;
        }

        /** Whether THE TAPE is without FAULT; else it stays at the FAULT. */
        boolean read(Tape tape) {
            tape.at = 0;
            size = 0;
            Step first = readSum(tape, 0);
            hasSides = first != null && tape.takes('=');
            if (!hasSides) {
                return first != null && tape.isAtEnd();
            }
            Step second = readSum(tape, 0);
            return second != null && append(Step.EQUALS, first, second) != null && tape.isAtEnd();
        }

        /** The next row for a STEP; null where there are too many. */
        private Step append(int kind, Step left, Step right) {
            if (size >= MOST_BYTES) {
                return null;
            }
            Step next = steps[size];
            next.start(kind, left, right);
            size++;
            return next;
        }

        /** The STEP that a SUM ends with; null at a FAULT. */
        private Step readSum(Tape tape, int depth) {
            Step sum = readTerm(tape, depth);
            for (int i = 0; i < MOST_BYTES && sum != null; i++) {
                int kind = tape.look(0) == '+' ? Step.PLUS : Step.MINUS;
                if (!tape.takes('+') && !tape.takes('-')) {
                    return sum;
                }
                Step next = readTerm(tape, depth);
                sum = next == null ? null : append(kind, sum, next);
            }
            return sum;
        }

        private Step readTerm(Tape tape, int depth) {
            Step term = readPart(tape, depth);
            for (int i = 0; i < MOST_BYTES && term != null; i++) {
                int kind = tape.look(0) == '*' ? Step.TIMES : Step.DIVIDED;
                if (!tape.takes('*') && !tape.takes('/')) {
                    return term;
                }
                Step next = readPart(tape, depth);
                term = next == null ? null : append(kind, term, next);
            }
            return term;
        }

        private Step readPart(Tape tape, int depth) {
            if (tape.look(0) != '(') {
                Step part = append(Step.PART, null, null);
                return part != null && part.read(tape) ? part : null;
            }
            if (depth >= DEEPEST) {
                return null;
            }
            tape.takes('(');
            Step inner = readSum(tape, depth + 1);
            if (inner == null || !tape.takes(')')) {
                return null;
            }
            inner.isEnclosed = true;
            return inner;
        }

        void proveAll(Tape tape, Units units) {
            held = 0;
            wrong = FINE;
            for (int i = 0; i < size && i < MOST_BYTES && wrong == FINE; i++) {
                wrong = findUnits(steps[i], tape, units) ? steps[i].judge(found, spare) : UNKNOWN;
                held += wrong == FINE ? 1 : 0;
            }
        }

        private boolean findUnits(Step step, Tape tape, Units units) {
            for (int i = 0; i < step.measures && i < Step.MOST_MEASURES; i++) {
                found[i] = units.at(units.numberOf(tape, step.nameAt[i], step.nameLengths[i]));
                if (found[i] == null) {
                    return false;
                }
            }
            return true;
        }
    }

    private static final class Claims {
        final int[] x = new int[MOST_CLAIMS];
        final int[] y = new int[MOST_CLAIMS];
        final int[] p = new int[MOST_CLAIMS];
        final int[] q = new int[MOST_CLAIMS];
        int size = 0;
        final boolean[] joins = new boolean[MOST_CLAIMS];
        /** Of each CLAIM whether it is AGAINST: 1, 0, or OVER. */
        final int[] verdicts = new int[MOST_CLAIMS];
        final int[] bunches = new int[MOST_UNITS];
        final int[] nextClaims = new int[MOST_UNITS];
        final Fraction way = new Fraction();
        final Fraction told = new Fraction();

        boolean append(int ofX, int ofY, int ofP, int ofQ) {
            if (size >= MOST_CLAIMS) {
                return false;
            }
            x[size] = ofX;
            y[size] = ofY;
            p[size] = ofP;
            q[size] = ofQ;
            size++;
            judgeAll();
            return true;
        }

        void remove(int i) {
            takeOut(i);
            judgeAll();
        }

        void removeOf(int unit) {
            for (int i = size - 1; i >= 0; i--) {
                if (x[i] == unit || y[i] == unit) {
                    takeOut(i);
                }
            }
            judgeAll();
        }

        private void takeOut(int gone) {
            for (int i = gone; i < size - 1; i++) {
                x[i] = x[i + 1];
                y[i] = y[i + 1];
                p[i] = p[i + 1];
                q[i] = q[i + 1];
            }
            size--;
        }

        void copy(Claims other) {
            size = other.size;
            System.arraycopy(other.x, 0, x, 0, MOST_CLAIMS);
            System.arraycopy(other.y, 0, y, 0, MOST_CLAIMS);
            System.arraycopy(other.p, 0, p, 0, MOST_CLAIMS);
            System.arraycopy(other.q, 0, q, 0, MOST_CLAIMS);
            judgeAll();
        }

        int joining() {
            int many = 0;
            for (int i = 0; i < size; i++) {
                many += joins[i] ? 1 : 0;
            }
            return many;
        }

        int against() {
            int many = 0;
            for (int i = 0; i < size; i++) {
                many += verdicts[i] == 1 ? 1 : 0;
            }
            return many;
        }

        boolean isOver() {
            for (int i = 0; i < size; i++) {
                if (verdicts[i] == OVER) {
                    return true;
                }
            }
            return false;
        }

        /** Anew behind each change, since a CLAIM that is gone may make later ones JOIN. */
        private void judgeAll() {
            for (int i = 0; i < MOST_UNITS; i++) {
                bunches[i] = i;
            }
            for (int i = 0; i < size; i++) {
                joins[i] = bunches[x[i]] != bunches[y[i]];
                if (joins[i]) {
                    mergeBunches(bunches[x[i]], bunches[y[i]]);
                }
            }
            for (int i = 0; i < size; i++) {
                verdicts[i] = joins[i] ? 0 : verdictOn(i);
            }
        }

        private void mergeBunches(int one, int other) {
            for (int i = 0; i < MOST_UNITS; i++) {
                if (bunches[i] == other) {
                    bunches[i] = one;
                }
            }
        }

        private int verdictOn(int i) {
            if (goFrom(x[i], y[i]) == OVER) {
                return OVER;
            }
            told.set(p[i], q[i]);
            return way.compareWith(told) == 0 ? 0 : 1;
        }

        /** Puts into way how much of UNIT to 1 of UNIT from is by CLAIMS that JOIN: FINE; NOT, OVER. */
        int goFrom(int from, int to) {
            way.set(1, 1);
            if (bunches[from] != bunches[to]) {
                return NOT;
            }
            spreadFrom(to);
            int unit = from;
            for (int i = 0; i < MOST_UNITS && unit != to; i++) {
                int claim = nextClaims[unit];
                if (claim < 0 || claim >= size) {
                    return NOT;
                }
                boolean forward = x[claim] == unit;
                told.set(forward ? p[claim] : q[claim], forward ? q[claim] : p[claim]);
                if (!way.multiplyBy(told.above, told.below)) {
                    return OVER;
                }
                unit = forward ? y[claim] : x[claim];
            }
            return FINE;
        }

        /** Finds for each UNIT the CLAIM by which the one way to a goal goes on; the goal has none. */
        private void spreadFrom(int goal) {
            for (int i = 0; i < MOST_UNITS; i++) {
                nextClaims[i] = NONE;
            }
            nextClaims[goal] = MOST_CLAIMS;
            boolean grows = true;
            for (int round = 0; round < MOST_CLAIMS && grows; round++) {
                grows = false;
                for (int i = 0; i < size; i++) {
                    boolean reachesX = nextClaims[x[i]] >= 0;
                    if (joins[i] && reachesX != nextClaims[y[i]] >= 0) {
                        nextClaims[reachesX ? y[i] : x[i]] = i;
                        grows = true;
                    }
                }
            }
        }
    }

    /** A row of floats, each held as the double that is the same number, or of doubles. */
    private static final class Track {
        static final long NO_FLOAT = 0x7fc00000L;
        static final long NO_DOUBLE = 0x7ff8000000000000L;

        int sort = -1;
        int size = 0;
        final double[] items = new double[MOST_ITEMS];
        /** Which items are no number; no double here ever is, so that none has to be reckoned with. */
        final boolean[] odd = new boolean[MOST_ITEMS];

        boolean isNothing() {
            return sort < 0;
        }

        void become(int ofSort, int ofSize) {
            sort = ofSort;
            size = ofSize;
            for (int i = 0; i < MOST_ITEMS; i++) {
                store(i, 0);
            }
        }

        void store(int i, double number) {
            items[i] = number;
            odd[i] = false;
        }

        void storeBits(int i, long bits, FloatBits floats) {
            long own = sort == 0 ? bits & 0xffffffffL : bits;
            odd[i] = sort == 0 ? floats.isNoFloat(own) : floats.isNoDouble(own);
            items[i] = odd[i] ? 0 : sort == 0 ? floats.toFloat(own) : floats.toDouble(own);
        }

        /** An item as casts see it. */
        double number(int i) {
            return odd[i] ? 0 : items[i];
        }

        long bitsOf(double number, boolean isOdd, FloatBits floats) {
            if (sort == 0) {
                return isOdd ? NO_FLOAT : floats.ofFloat((float) number);
            }
            return isOdd ? NO_DOUBLE : floats.ofDouble(number);
        }

        void copy(Track other) {
            sort = other.sort;
            size = other.size;
            System.arraycopy(other.items, 0, items, 0, MOST_ITEMS);
            for (int i = 0; i < MOST_ITEMS; i++) {
                odd[i] = other.odd[i];
            }
        }

        void convert(Unit from, Unit to) {
            for (int i = 0; i < size && i < MOST_ITEMS; i++) {
                if (!odd[i]) {
                    items[i] = sort == 0 ? inFloats((float) items[i], from, to) : inDoubles(items[i], from, to);
                }
            }
        }

        private static float inFloats(float item, Unit from, Unit to) {
            float result = item * (float) from.factor.above;
            result = result / (float) from.factor.below;
            result = result + (float) from.offset.above / (float) from.offset.below;
            result = result - (float) to.offset.above / (float) to.offset.below;
            result = result * (float) to.factor.below;
            return result / (float) to.factor.above;
        }

        private static double inDoubles(double item, Unit from, Unit to) {
            double result = item * (double) from.factor.above;
            result = result / (double) from.factor.below;
            result = result + (double) from.offset.above / (double) from.offset.below;
            result = result - (double) to.offset.above / (double) to.offset.below;
            result = result * (double) to.factor.below;
            return result / (double) to.factor.above;
        }

        long sumBits(FloatBits floats) {
            double sum = 0;
            for (int i = 0; i < size && i < MOST_ITEMS; i++) {
                // endless ones of both signs have no sum
                if (odd[i] || floats.isEndless(sum) && items[i] == -sum) {
                    return bitsOf(0, true, floats);
                }
                sum = sort == 0 ? (float) sum + (float) items[i] : sum + items[i];
            }
            return bitsOf(sum, false, floats);
        }
    }

    /** Bits of doubles and floats, both ways, by powers of two alone; no number here is NaN. */
    private static final class FloatBits {
        static final int DOUBLE_FIGURES = 52;
        static final int DOUBLE_BIAS = 1023;
        static final int FLOAT_FIGURES = 23;
        static final int FLOAT_BIAS = 127;
        static final int TWOS = 10;
        static final long DOUBLE_SIGN = 1L << 63;
        static final long FLOAT_SIGN = 1L << 31;

        /** 2, 4, 16 and so on, each the one ahead by itself. */
        final double[] twos = new double[TWOS];
        final double endless;

        FloatBits() {
            double two = 2;
            for (int i = 0; i < TWOS; i++) {
                twos[i] = two;
                two = two * two;
            }
            endless = two;
        }

        boolean isEndless(double number) {
            return number == endless || number == -endless;
        }

        long ofDouble(double number) {
            return magnitude(number, DOUBLE_FIGURES, DOUBLE_BIAS) | (isNegative(number) ? DOUBLE_SIGN : 0);
        }

        long ofFloat(float number) {
            return (int) (magnitude(number, FLOAT_FIGURES, FLOAT_BIAS) | (isNegative(number) ? FLOAT_SIGN : 0));
        }

        boolean isNoDouble(long bits) {
            return isNoNumber(bits, DOUBLE_FIGURES, DOUBLE_BIAS);
        }

        boolean isNoFloat(long bits) {
            return isNoNumber(bits, FLOAT_FIGURES, FLOAT_BIAS);
        }

        double toDouble(long bits) {
            double size = fromBits(bits, DOUBLE_FIGURES, DOUBLE_BIAS);
            return bits < 0 ? -size : size;
        }

        double toFloat(long bits) {
            double size = fromBits(bits, FLOAT_FIGURES, FLOAT_BIAS);
            return (bits & FLOAT_SIGN) != 0 ? -size : size;
        }

        /** The 0 below 0 is told from the other one only by what it divides. */
        private static boolean isNegative(double number) {
            return number < 0 || number == 0 && 1.0 / number < 0;
        }

        /** The exponent's bits when all are set. */
        private static long topExponent(int bias) {
            return 2L * bias + 1;
        }

        private static boolean isNoNumber(long bits, int figures, int bias) {
            return (bits >> figures & topExponent(bias)) == topExponent(bias) && (bits & (1L << figures) - 1) != 0;
        }

        private double fromBits(long bits, int figures, int bias) {
            long exponent = bits >> figures & topExponent(bias);
            double fine = (double) (bits & (1L << figures) - 1) / (double) (1L << figures);
            if (exponent == topExponent(bias)) {
                return endless;
            }
            return exponent == 0 ? scaled(fine, 1 - bias) : scaled(1 + fine, (int) exponent - bias);
        }

        /** All bits but the sign's. */
        private long magnitude(double number, int figures, int bias) {
            double size = number < 0 ? -number : number;
            if (size == 0) {
                return 0;
            }
            if (size == endless) {
                return topExponent(bias) << figures;
            }
            int exponent = exponentOf(size);
            double fine = (double) (1L << figures);
            if (exponent < 1 - bias) {
                return (long) (scaled(size, bias - 1) * fine);
            }
            return (long) (exponent + bias) << figures | (long) ((scaled(size, -exponent) - 1) * fine);
        }

        /** The greatest power of two that a number holds, down to -1023. */
        private int exponentOf(double size) {
            int exponent = 0;
            double rest = size;
            boolean large = size >= 1;
            for (int i = TWOS - 1; i >= 0; i--) {
                if (large && rest >= twos[i]) {
                    rest = rest / twos[i];
                    exponent += 1 << i;
                } else if (!large && rest * twos[i] < 2) {
                    rest = rest * twos[i];
                    exponent -= 1 << i;
                }
            }
            return exponent;
        }

        /** A number times a power of two, -1023 to 1023: exact wherever it is called. */
        private double scaled(double number, int exponent) {
            double result = number;
            for (int i = 0; i < TWOS; i++) {
                if ((Math.abs(exponent) >> i & 1) != 0) {
                    result = exponent > 0 ? result * twos[i] : result / twos[i];
                }
            }
            return result;
        }
    }

    /** Six places for UNITS (rack 0), FRACTIONS (1) or either (2). */
    private static final class Rack {
        static final int EMPTY = -1;
        static final int UNIT = 0;
        static final int FRACTION = 1;
        static final int EITHER = 2;

        final int sort;
        final int[] kinds = new int[PLACES];
        /** Of a UNIT its number, of a FRACTION its above: no more of them is ever told. */
        final long[] numbers = new long[PLACES];

        Rack(int ofSort) {
            sort = ofSort;
            for (int i = 0; i < PLACES; i++) {
                kinds[i] = EMPTY;
            }
        }

        /** False for a kind that it refuses. */
        boolean store(int i, int kind, long number) {
            if (i < 0 || i >= PLACES || kind != EMPTY && sort != EITHER && sort != kind) {
                return false;
            }
            kinds[i] = kind;
            numbers[i] = number;
            return true;
        }

        int filled() {
            int many = 0;
            for (int i = 0; i < PLACES; i++) {
                many += kinds[i] == EMPTY ? 0 : 1;
            }
            return many;
        }
    }
}
