/** What the tests share: a count of what is due, and the feeding of texts. */
final class Checks {
    static final long NO = Long.MIN_VALUE;

    private final String of;
    private String words = "";
    private int asked = 0;
    private int wrong = 0;

    Checks(String of) {
        this.of = of;
    }

    /** The words of DOC.md that the answers from here on are for; Quotes lists the words that no test says. */
    void says(String quote) {
        words = quote;
    }

    void due(String call, long got, long want) {
        asked++;
        if (got != want) {
            wrong++;
            String why = words.isEmpty() ? "" : " [" + words + "]";
            System.out.println(of + ": " + call + " answered " + got + ", due is " + want + why);
        }
    }

    /** How many answers have been due so far. */
    int asked() {
        return asked;
    }

    void no(String call, long got) {
        due(call, got, NO);
    }

    void close() {
        System.out.println(of + ": " + asked + " answers, " + wrong + " of them wrong");
        if (wrong != 0 || asked == 0) {
            System.exit(1);
        }
    }

    static void feed(UnitProver x, String text) {
        for (int i = 0; i < text.length(); i++) {
            x.feed(text.charAt(i));
        }
    }

    static int define(UnitProver x, String text) {
        feed(x, text);
        return x.define();
    }

    static int prove(UnitProver x, String text) {
        feed(x, text);
        return x.prove();
    }

    static int find(UnitProver x, String text) {
        feed(x, text);
        return x.find();
    }

    /** A prover with cm 5, in 6, ft 7, yd 8, c 9 and f 10 (with OFFSETS), n 11. */
    static UnitProver stocked() {
        UnitProver x = new UnitProver();
        define(x, "cm=1/100m");
        define(x, "in=254/100cm");
        define(x, "ft=12in");
        define(x, "yd=3ft");
        define(x, "c=1k+27315/100");
        define(x, "f=5/9k+45967/180");
        define(x, "n=1000g*m/s2");
        return x;
    }

    /** A DEFINITION on a new stocked prover, which has one UNIT more or just as many behind it. */
    void defines(String text, int want) {
        UnitProver x = stocked();
        defined(x, text, want);
        due("count(0) behind " + text, x.count(0), want >= 0 ? 13 : 12);
        due("count(2) behind " + text, x.count(2), 0);
    }

    /** The FAULT of a DEFINITION. */
    void definesNot(String text, int fault) {
        defines(text, -100 - fault);
    }

    /** A FORMULA on a new stocked prover: HELD, with so many STEPS. */
    void proves(String text, int steps) {
        judges(text, steps, 1);
    }

    /** A FORMULA on a new stocked prover, and by what it is WRONG. */
    void judges(String text, int steps, int verdict) {
        judged(stocked(), text, steps, verdict);
    }

    /** The FAULT of a FORMULA on a new stocked prover, which has no PROOF behind it. */
    void provesNot(String text, int fault) {
        UnitProver x = stocked();
        proved(x, text, -100 - fault);
        due("proof(0) behind " + text, x.proof(0), UnitProver.STATE);
        due("count(2) behind " + text, x.count(2), 0);
    }

    /** VALUE of the last STEP of a FORMULA on a prover. */
    void worth(UnitProver x, String text, long above, long below) {
        prove(x, text);
        int last = x.count(3) - 1;
        due("proof(0) of " + text, x.proof(0), 1);
        pair("VALUE of " + text, x.value(last, 0), x.value(last, 1), above, below);
    }

    void defined(UnitProver x, String text, int want) {
        due("define() of " + text, define(x, text), want);
    }

    void proved(UnitProver x, String text, int want) {
        due("prove() of " + text, prove(x, text), want);
    }

    /** proof(0) behind a FORMULA, and how many STEPS are not WRONG. */
    void judged(UnitProver x, String text, int steps, int verdict) {
        proved(x, text, steps);
        due("proof(0) of " + text, x.proof(0), verdict);
    }

    void pair(String call, long above, long below, long wantAbove, long wantBelow) {
        due(call + " above", above, wantAbove);
        due(call + " below", below, wantBelow);
    }
}
