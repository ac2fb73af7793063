/** What the tests share: a count of what is due, and the feeding of texts. */
final class Checks {
    static final long NO = Long.MIN_VALUE;

    private final String of;
    private int asked = 0;
    private int wrong = 0;

    Checks(String of) {
        this.of = of;
    }

    void due(String call, long got, long want) {
        asked++;
        if (got != want) {
            wrong++;
            System.out.println(of + ": " + call + " answered " + got + ", due is " + want);
        }
    }

    void close() {
        System.out.println(of + ": " + asked + " answers, " + wrong + " of them wrong");
        if (wrong != 0 || asked == 0) {
            System.exit(1);
        }
    }

    static void feed(UnitProver x, String text) {
        for (int i = 0; i < text.length(); i++) {
            x.feed(text.charAt(i));
        }
    }

    static int define(UnitProver x, String text) {
        feed(x, text);
        return x.define();
    }

    static int prove(UnitProver x, String text) {
        feed(x, text);
        return x.prove();
    }

    static int find(UnitProver x, String text) {
        feed(x, text);
        return x.find();
    }

    /** A prover with cm 5, in 6, ft 7, yd 8, c 9 and f 10 (with OFFSETS), n 11. */
    static UnitProver stocked() {
        UnitProver x = new UnitProver();
        define(x, "cm=1/100m");
        define(x, "in=254/100cm");
        define(x, "ft=12in");
        define(x, "yd=3ft");
        define(x, "c=1k+27315/100");
        define(x, "f=5/9k+45967/180");
        define(x, "n=1000g*m/s2");
        return x;
    }

    void defined(UnitProver x, String text, int want) {
        due("define() of " + text, define(x, text), want);
    }

    void proved(UnitProver x, String text, int want) {
        due("prove() of " + text, prove(x, text), want);
    }

    /** proof(0) behind a FORMULA, and how many STEPS are not WRONG. */
    void judged(UnitProver x, String text, int steps, int verdict) {
        proved(x, text, steps);
        due("proof(0) of " + text, x.proof(0), verdict);
    }

    void pair(String call, long above, long below, long wantAbove, long wantBelow) {
        due(call + " above", above, wantAbove);
        due(call + " below", below, wantBelow);
    }
}
