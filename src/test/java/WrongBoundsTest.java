/** One test for each sentence about what a STEP is WRONG by, and about which of several counts first. */
public final class WrongBoundsTest {
    private static final Checks C = new Checks("WrongBoundsTest");

    public static void main(String[] args) {
        firstWrongStep();
        unknown();
        shiftedByFigure();
        shiftedInMixed();
        shiftedSides();
        shiftedWithin();
        unlike();
        order();
        nought();
        wide();
        over();
        firstOfOneStep();
        C.close();
    }

    private static void firstWrongStep() {
        C.says("The PROOF ends with the first STEP that is WRONG");
        C.judges("1/0+zz", 2, -9);
        C.judges("zz+1/0", 0, -8);
        C.judges("1+m+zz", 2, -13);
        C.judges("1+zz+m", 1, -8);
        C.judges("2*c+c2", 2, -10);
        C.judges("c2+2*c", 0, -10);
        C.judges("3in4ft+1/0", 0, -14);
    }

    private static void unknown() {
        C.says("UNKNOWN; SHIFTED: a UNIT with an OFFSET with a figure 2 or more, in MIXED, or on a side of * or /");
        C.judges("zz", 0, -8);
        C.judges("2zz", 0, -8);
        C.judges("2zz4", 0, -8);
        C.judges("0zz", 0, -8);
        C.judges("5zz2ft3in", 0, -8);
        C.judges("5yd2zz3in", 0, -8);
        C.judges("5yd2ft3zz", 0, -8);
        C.judges("5yd2ft3in4zz", 0, -8);
        C.judges("1+2*(3-zz)", 3, -8);
        C.judges("m=zz", 1, -8);
        C.judges("i", 0, -8);
        C.judges("cmm", 0, -8);
        UnitProver x = Checks.stocked();
        x.drop();
        C.judged(x, "n", 0, -8);
    }

    private static void shiftedByFigure() {
        C.says("SHIFTED: a UNIT with an OFFSET with a figure 2 or more");
        for (char figure = '2'; figure <= '4'; figure++) {
            C.judges("c" + figure, 0, -10);
            C.judges("5c" + figure, 0, -10);
            C.judges("(c" + figure + ")", 0, -10);
        }
        C.proves("c1", 1);
        C.proves("5c1", 1);
        C.proves("k4", 1);
    }

    private static void shiftedInMixed() {
        C.says("a UNIT with an OFFSET with a figure 2 or more, in MIXED,");
        C.judges("5c2k", 0, -10);
        C.judges("5k2c", 0, -10);
        C.judges("5yd2ft3c", 0, -10);
        C.judges("5yd2ft3in4c", 0, -10);
        C.judges("(5k2c)", 0, -10);
        UnitProver x = Checks.stocked();
        Checks.define(x, "mk=1/1000k");
        C.judged(x, "5k2mk", 1, 1);
    }

    private static void shiftedSides() {
        C.says("or on a side of * or / a MEASURE or a NAME of such a UNIT that stands there itself (within ( ) it may);");
        C.judges("c*2", 2, -10);
        C.judges("5c*2", 2, -10);
        C.judges("2*c", 2, -10);
        C.judges("2*5c", 2, -10);
        C.judges("c/2", 2, -10);
        C.judges("5c1/2", 2, -10);
        C.judges("2/c", 2, -10);
        C.judges("2/5c1", 2, -10);
        C.judges("2*3*c", 4, -10);
        C.judges("2+c*2", 3, -10);
        C.judges("c+2*c", 3, -10);
        C.judges("(c*2)", 2, -10);
        C.judges("(c)*c", 2, -10);
        C.judges("c*(c)", 2, -10);
        C.says("On a side of * or / it is that STEP that is SHIFTED.");
        UnitProver x = Checks.stocked();
        C.judged(x, "2*5c", 2, -10);
        C.due("the MEASURE is a STEP", x.value(1, 0), 5563);
    }

    private static void shiftedWithin() {
        C.says("(within ( ) it may)");
        C.proves("(c)*2", 3);
        C.proves("2*(5c)", 3);
        C.proves("((c))/2", 3);
        C.proves("2/(((c)))", 3);
        C.proves("(c)*(f)", 3);
        C.proves("(c+f)*2", 5);
        C.proves("c+f", 3);
        C.proves("c-f=c", 5);
        C.proves("(c)=2*(c)", 5);
        UnitProver x = Checks.stocked();
        C.worth(x, "2*(5c)", 5563, 10);
        // what stood within ( ) in a FORMULA ahead does not stand so in the next ones
        C.judged(x, "(c)*(c)", 3, 1);
        C.judged(x, "(f)*(f)", 3, 1);
        C.judged(x, "c*c", 2, -10);
        C.judged(x, "f*f", 2, -10);
        C.judged(x, "(k)*(k)", 3, 1);
        C.judged(x, "c+c", 3, 1);
        C.judged(x, "k*k", 3, 1);
        C.judged(x, "k*2", 3, 1);
    }

    private static void unlike() {
        C.says("UNLIKE (-13): both sides of +, -, =, or UNITS in MIXED, have not the same DIMENSION;");
        for (String sign : new String[] {"+", "-", "="}) {
            C.judges("m" + sign + "g", 2, -13);
            C.judges("m" + sign + "1", 2, -13);
            C.judges("1" + sign + "m", 2, -13);
            C.judges("m" + sign + "m2", 2, -13);
            C.judges("0m" + sign + "0", 2, -13);
            C.proves("m2" + sign + "3cm2", 3);
            C.proves("m/m" + sign + "1", 5);
        }
        for (int base = 0; base < 5; base++) {
            String own = "mgska".substring(base, base + 1);
            C.judges(own + "+" + own + "2", 2, -13);
            C.proves(own + "+" + own, 3);
        }
        C.judges("5m2s", 0, -13);
        C.judges("5yd2s3in", 0, -13);
        C.judges("5yd2ft3s", 0, -13);
        C.judges("5yd2ft3in4s", 0, -13);
        C.proves("m*g", 3);
        C.proves("m/g", 3);
    }

    private static void order() {
        C.says("ORDER (-14): in MIXED a later UNIT's FACTOR isn't less than that ahead;");
        C.judges("5ft2ft", 0, -14);
        C.judges("5in2ft", 0, -14);
        C.judges("5yd2ft3ft", 0, -14);
        C.judges("5yd2in3ft", 0, -14);
        C.judges("5yd2ft3in4in", 0, -14);
        C.judges("5yd2in3cm4ft", 0, -14);
        C.proves("0yd0cm", 1);
        UnitProver x = Checks.stocked();
        Checks.define(x, "alt=12in");
        C.judged(x, "5ft2alt", 0, -14);
        Checks.define(x, "less=999999/999998in");
        C.judged(x, "5less2in", 1, 1);
        C.judged(x, "5in2less", 0, -14);
        Checks.define(x, "l=3/2m");
        Checks.define(x, "o=4/3m");
        C.judged(x, "1l1o1m", 1, 1);
        C.judged(x, "1o1l", 0, -14);
        C.judged(x, "1m1o", 0, -14);
        C.judged(x, "1m1l", 0, -14);
    }

    private static void nought() {
        C.says("NOUGHT: what is divided by is 0;");
        C.judges("1/0", 2, -9);
        C.judges("1/0.000", 2, -9);
        C.judges("1/0m", 2, -9);
        C.judges("0/0", 2, -9);
        C.judges("m/(m-m)", 4, -9);
        C.judges("1/0yd0ft", 2, -9);
        C.proves("0/1", 3);
        C.proves("0*0", 3);
        C.proves("1/0.001", 3);
        UnitProver x = Checks.stocked();
        Checks.define(x, "low=1k-5");
        C.judged(x, "1/(5low)", 2, -9);
        C.judged(x, "1/(4low)", 3, 1);
    }

    private static UnitProver withNines() {
        UnitProver x = Checks.stocked();
        for (int base = 0; base < 5; base++) {
            char own = "mgska".charAt(base);
            Checks.define(x, "w" + own + "=1" + own + "4*" + own + "4*" + own);
        }
        return x;
    }

    private static void wide() {
        C.says("WIDE: a POWER beyond 18;");
        UnitProver x = withNines();
        for (int base = 0; base < 5; base++) {
            String own = "mgska".substring(base, base + 1);
            String other = "mgska".substring((base + 1) % 5, (base + 1) % 5 + 1);
            String nine = "w" + own;
            C.judged(x, nine + "2", 1, 1);
            C.due("POWER 18", x.step(0, base + 1), 118);
            C.judged(x, nine + "2*" + own, 2, -12);
            C.judged(x, other + "/" + nine + "2", 3, 1);
            C.due("POWER -18", x.step(2, base + 1), 82);
            C.judged(x, other + "/" + nine + "2/" + own, 4, -12);
        }
        x = withNines();
        C.judged(x, "wm*wm/m*m", 7, 1);
        C.judged(x, "wm*wm*m/m", 4, -12);
        C.judged(x, "wm3", 0, -12);
        C.judged(x, "5wm4", 0, -12);
        C.judged(x, "wm*wm/(s/m)", 6, -12);
        Checks.define(x, "five=1m4*m");
        C.judged(x, "five3", 1, 1);
        C.judged(x, "five4", 0, -12);
    }

    private static void over() {
        C.says("WIDE: a POWER beyond 18; OVER;");
        UnitProver x = new UnitProver();
        Checks.define(x, "t=999999m");
        C.judged(x, "t3", 1, 1);
        C.judged(x, "t4", 0, -15);
        C.judged(x, "10t3", 0, -15);
        C.judged(x, "9t3", 1, 1);
        C.judged(x, "t3*10", 2, -15);
        C.judged(x, "t3*9", 3, 1);
        C.judged(x, "s/t3/10", 4, -15);
        C.judged(x, "9t3+9t3", 2, -15);
        C.judged(x, "m3-9t3-9t3", 4, -15);
        C.judged(x, "m3-9t3=9t3", 4, -15);
        C.judged(x, "9t3-9t3", 3, 1);
    }

    private static void firstOfOneStep() {
        C.says("of one STEP the first as here.");
        UnitProver x = Checks.stocked();
        Checks.define(x, "w=1m4*m4*m");
        Checks.define(x, "h=1w+1");
        Checks.define(x, "t=999999w");
        Checks.define(x, "u=999999t");
        Checks.define(x, "v=999999u");
        Checks.define(x, "mv=9/10v");
        // UNKNOWN ahead of SHIFTED, UNLIKE, ORDER
        C.judged(x, "5c2zz", 0, -8);
        C.judged(x, "5m2s3zz", 0, -8);
        C.judged(x, "5in2ft3zz", 0, -8);
        // SHIFTED ahead of UNLIKE, ORDER, NOUGHT, WIDE, OVER
        C.judged(x, "5m2s3c", 0, -10);
        C.judged(x, "5k2k3c", 0, -10);
        C.judged(x, "c/0", 2, -10);
        C.judged(x, "w2*h", 2, -10);
        C.judged(x, "h4", 0, -10);
        C.judged(x, "v*99h", 2, -10);
        // UNLIKE ahead of ORDER, OVER
        C.judged(x, "5in2ft3s", 0, -13);
        C.judged(x, "99v2s", 0, -13);
        C.judged(x, "9v+1/3", 4, -13);
        // ORDER ahead of OVER
        C.judged(x, "5w999999v", 0, -14);
        C.judged(x, "9v2mv", 0, -15);
        // NOUGHT ahead of WIDE
        C.judged(x, "w2/(0/m)", 4, -9);
        // WIDE ahead of OVER
        C.judged(x, "9v3", 0, -12);
        C.judged(x, "v*v*v", 2, -15);
        C.judged(x, "v*w*v", 4, -12);
        C.judged(x, "s/v/w/v", 6, -12);
    }
}
