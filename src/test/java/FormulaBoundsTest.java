/** One test for each sentence about FORMULAS as texts and about STEPS that names a bound, an order or a refusal. */
public final class FormulaBoundsTest {
    private static final Checks C = new Checks("FormulaBoundsTest");

    public static void main(String[] args) {
        sides();
        sumsAndTerms();
        numbers();
        measures();
        mixedMany();
        firstFigure();
        laterFigures();
        fourthFigure();
        namesAlone();
        brackets();
        faultEnds();
        longest();
        stepOrder();
        stepKinds();
        values();
        offsetsOfValues();
        latest();
        proveAnswers();
        proofAnswers();
        stepAnswers();
        valueAnswers();
        sameAnswers();
        C.close();
    }

    private static void sides() {
        C.says("A FORMULA is read from THE TAPE: SUM, or SUM = SUM.");
        C.proves("1", 1);
        C.proves("1=1", 3);
        C.provesNot("", 0);
        C.provesNot("=", 0);
        C.provesNot("=1", 0);
        C.provesNot("1=", 2);
        C.provesNot("1==1", 2);
        C.provesNot("1=1=1", 3);
        C.provesNot("(1=1)", 2);
        C.provesNot("1=(1=1)", 4);
        C.provesNot("1 ", 1);
        C.provesNot("1,", 1);
    }

    private static void sumsAndTerms() {
        C.says("SUM: TERM, any number of + or - and TERM. TERM: PART, any number of * or / and PART.");
        for (String sign : new String[] {"+", "-", "*", "/"}) {
            C.proves("1" + sign + "1", 3);
            C.provesNot(sign + "1", 0);
            C.provesNot("1" + sign, 2);
            C.provesNot("(" + sign + "1)", 1);
            C.provesNot("(1" + sign + ")", 3);
            C.provesNot("1=" + sign + "1", 2);
            for (String other : new String[] {"+", "-", "*", "/", "="}) {
                C.provesNot("1" + sign + other + "1", 2);
            }
        }
    }

    private static void numbers() {
        C.says("NUMBER here: 1 .. 6 figures, or these, ., 1 .. 3 figures.");
        C.proves("0", 1);
        C.proves("999999", 1);
        C.proves("000000", 1);
        C.proves("1.5", 1);
        C.proves("999999.999", 1);
        C.provesNot("1234567", 6);
        C.provesNot("0000000", 6);
        C.provesNot("1.", 2);
        C.provesNot("1.m", 2);
        C.provesNot("1.2345", 5);
        C.provesNot("1.5.5", 3);
        C.provesNot(".5", 0);
        for (String next : new String[] {":", "`", "{", "A"}) {
            C.provesNot(next, 0);
            C.provesNot("1" + next, 1);
            C.provesNot("1." + next, 2);
            C.provesNot("1.5" + next, 3);
            C.provesNot("1m" + next, 2);
            C.provesNot("m" + next, 1);
            C.provesNot("1m2" + next, 3);
            C.provesNot("(1)" + next, 3);
        }
        C.provesNot("1m1234567m", 8);
        C.provesNot("1m1.2345m", 7);
        UnitProver x = new UnitProver();
        C.worth(x, "999999.999", 999999999, 1000);
        C.worth(x, "0.001", 1, 1000);
        C.worth(x, "000001.10", 11, 10);
    }

    private static void measures() {
        C.says("MEASURE: NUMBER and NAME and a figure 1 .. 4 or none (the figure belongs to the NAME: powers of the UNIT).");
        UnitProver x = Checks.stocked();
        for (int i = 1; i <= 4; i++) {
            C.judged(x, "3m" + i, 1, 1);
            C.due("power of 3m" + i, x.step(0, 1), 100 + i);
        }
        C.worth(x, "50cm2", 1, 200);
        C.worth(x, "5cm", 1, 20);
        C.judges("3.5abcd", 0, -8);
        C.provesNot("3abcde", 5);
        C.provesNot("3M", 1);
    }

    private static void mixedMany() {
        C.says("MIXED: two to four MEASURES without figures, one right behind the other.");
        C.proves("5m2ft", 1);
        C.proves("5m2ft3in", 1);
        C.proves("5yd2ft3in4cm", 1);
        C.proves("5.5yd2.25ft3.125in4cm", 1);
        C.provesNot("5yd2ft3in4cm5", 12);
        C.provesNot("5yd2ft3in4cm5cm", 12);
        C.provesNot("5m2ft 3in", 5);
        C.provesNot("5yd(2ft)", 3);
        C.provesNot("yd2ft", 3);
        C.provesNot("5m2ft.3in", 5);
    }

    private static void firstFigure() {
        C.says("What stands behind a NAME of a first MEASURE is its figure, if it is one of 1 .. 4 and no figure, ., or letter stands right behind it; else it begins the next MEASURE;");
        for (char figure = '1'; figure <= '4'; figure++) {
            C.proves("5m" + figure, 1);
            C.proves("5m" + figure + "*2", 3);
            C.proves("5m" + figure + "/2", 3);
            C.proves("(5m" + figure + ")", 1);
            C.proves("5m" + figure + "=5m" + figure, 3);
            C.proves("5m" + figure + "+5m" + figure, 3);
            C.proves("5m" + figure + "-5m" + figure, 3);
        }
        for (char figure = '0'; figure <= '9'; figure++) {
            C.proves("5m" + figure + "in", 1);
            C.proves("5m" + figure + "7in", 1);
            C.proves("5m" + figure + ".5in", 1);
            C.provesNot("5m" + figure + "7", 4);
            C.provesNot("5m" + figure + ".", 4);
            C.provesNot("5m" + figure + ".5", 5);
        }
        for (char figure : "056789".toCharArray()) {
            C.provesNot("5m" + figure, 3);
            C.provesNot("5m" + figure + "+1", 3);
            C.provesNot("(5m" + figure + ")", 4);
        }
        UnitProver x = Checks.stocked();
        C.worth(x, "5m4cm", 126, 25);
        C.worth(x, "5m1", 5, 1);
        C.judged(x, "5m4s", 0, -13);
    }

    private static void laterFigures() {
        C.says("behind a second or third NAME it always does.");
        for (char figure = '0'; figure <= '9'; figure++) {
            C.provesNot("5yd2ft" + figure, 7);
            C.provesNot("5yd2ft" + figure + "+1yd", 7);
            C.provesNot("5yd2ft3in" + figure, 10);
            C.provesNot("5yd2ft3in" + figure + "=1yd", 10);
            C.proves("5yd2ft" + figure + "in", 1);
            C.proves("5yd2ft3in" + figure + "cm", 1);
        }
    }

    private static void fourthFigure() {
        C.says("A figure behind a fourth NAME of MIXED is the FAULT.");
        for (char figure = '0'; figure <= '9'; figure++) {
            C.provesNot("5yd2ft3in4cm" + figure, 12);
            C.provesNot("(5yd2ft3in4cm" + figure + "cm)", 13);
        }
    }

    private static void namesAlone() {
        C.says("NAME with a figure 1 .. 4 or none (worth 1 of it)");
        UnitProver x = Checks.stocked();
        C.worth(x, "cm", 1, 100);
        C.worth(x, "cm1", 1, 100);
        C.worth(x, "cm2", 1, 10000);
        C.worth(x, "cm4", 1, 100000000);
        C.provesNot("m0", 1);
        C.provesNot("m5", 1);
        C.provesNot("m22", 2);
        C.provesNot("m2.5", 2);
        C.provesNot("m2in", 2);
        C.provesNot("m2(", 2);
        C.provesNot("abcde", 4);
        C.judges("abcd", 0, -8);
    }

    private static void brackets() {
        C.says("( SUM )");
        C.proves("(1)", 1);
        C.provesNot("()", 1);
        C.provesNot("(1", 2);
        C.provesNot("1)", 1);
        C.provesNot("(1))", 3);
        C.provesNot("(1)(1)", 3);
        C.provesNot("(1)1", 3);
        C.provesNot("(1)m", 3);
        C.provesNot("1(1)", 1);
        C.provesNot("m(1)", 1);
        C.says("A ( may stand within 3 others at most.");
        C.proves("((((1))))", 1);
        C.proves("((((1))))=((((1))))", 3);
        C.proves("(((1+(1))+((1))))*((((2))))", 7);
        C.proves("((((1)+(1))))", 3);
        C.provesNot("(((((1)))))", 4);
        C.provesNot("((((1+(1)))))", 6);
        C.provesNot("((((1))))+(((((1)))))", 14);
        C.provesNot("1=(((((1)))))", 6);
    }

    private static void faultEnds() {
        C.says("the length, if it ends too early.");
        C.provesNot("(", 1);
        C.provesNot("((((", 4);
        C.provesNot("(5m2in", 6);
        C.provesNot("5m2in3", 6);
        C.provesNot("((1)+2", 6);
        C.provesNot("1=((1)+2", 8);
        C.provesNot("1=1+", 4);
    }

    private static void longest() {
        C.says("THE TAPE (60 bytes at most)");
        StringBuilder text = new StringBuilder("1");
        for (int i = 0; i < 29; i++) {
            text.append("+1");
        }
        C.proves(text.toString(), 59);
        C.proves(text.substring(0, 57) + "=57", 59);
        C.provesNot(text + "+", 60);
    }

    private static void stepOrder() {
        C.says("numbered from 0 as they are done, from the left on: each PART that is no ( ) (KIND 0; MIXED is one), each * (1), / (2), + (3), - (4)");
        kinds("1+2*3-4/5", 0, 0, 0, 1, 3, 0, 0, 2, 4);
        kinds("1*2*3", 0, 0, 1, 0, 1);
        kinds("1-2+3", 0, 0, 4, 0, 3);
        kinds("(1-2)*(3+4)", 0, 0, 4, 0, 0, 3, 1);
        kinds("1+(2+(3+(4)))", 0, 0, 0, 0, 3, 3, 3);
        kinds("5yd2ft3in4cm*2", 0, 0, 1);
        C.says("= (5) at last");
        kinds("1=2", 0, 0, 5);
        kinds("1+1=2*1", 0, 0, 3, 0, 0, 1, 5);
        C.says("(* and / of a TERM are done one by one, ahead of the + or - ahead of that TERM.)");
        kinds("1+2/3*4", 0, 0, 0, 2, 0, 1, 3);
        kinds("8-6/3/2", 0, 0, 0, 2, 0, 2, 4);
        C.worth(new UnitProver(), "8-6/3/2", 7, 1);
        C.worth(new UnitProver(), "8-6-1+4", 5, 1);
        C.worth(new UnitProver(), "8/2*3", 12, 1);
    }

    private static void kinds(String text, int... kinds) {
        UnitProver x = Checks.stocked();
        C.judged(x, text, kinds.length, 1);
        for (int i = 0; i < kinds.length; i++) {
            C.due("KIND of STEP " + i + " of " + text, x.step(i, 0), kinds[i]);
        }
        C.due("none behind it", x.step(kinds.length, 0), -1);
    }

    private static void stepKinds() {
        C.says("4 how many STEPS are of KIND 0.");
        UnitProver x = Checks.stocked();
        C.judged(x, "yd+2*(3ft-4in)=5yd2ft", 9, 1);
        C.due("proof(4)", x.proof(4), 5);
        C.judged(x, "1+2*(3-4)=5yd2ft", 8, -13);
        C.due("proof(4)", x.proof(4), 5);
    }

    private static void values() {
        C.says("of a NUMBER itself, in lowest terms;");
        UnitProver x = Checks.stocked();
        C.worth(x, "0.000", 0, 1);
        C.worth(x, "2.500", 5, 2);
        C.worth(x, "999999", 999999, 1);
        C.says("of a MEASURE its NUMBER times the FACTOR (as often as its figure says, one by one)");
        C.worth(x, "2.5cm", 1, 40);
        C.worth(x, "0in4", 0, 1);
        C.worth(x, "10cm4", 1, 10000000);
        C.says("of a NAME likewise with 1;");
        C.worth(x, "in4", 260144641, 625000000000000L);
        C.says("of MIXED from the left on NUMBER times FACTOR of each, added to what there is so far.");
        C.worth(x, "1yd2ft3in4cm", 8201, 5000);
        C.worth(x, "0yd0ft", 0, 1);
        C.says("VALUE of = is its left side less its right side.");
        C.worth(x, "2m=300cm", -1, 1);
        C.worth(x, "3m=200cm", 1, 1);
        C.worth(x, "2m=200cm", 0, 1);
    }

    private static void offsetsOfValues() {
        C.says("and the OFFSET (only by figure 1 or none);");
        UnitProver x = Checks.stocked();
        C.worth(x, "20c", 5863, 20);
        C.worth(x, "20c1", 5863, 20);
        C.worth(x, "c", 5483, 20);
        C.worth(x, "c1", 5483, 20);
        C.worth(x, "0c", 5463, 20);
        C.worth(x, "0f", 45967, 180);
        Checks.define(x, "low=1k-5");
        C.worth(x, "5low", 0, 1);
        C.worth(x, "4low", -1, 1);
        C.due("sign", x.step(0, 6), 0);
    }

    private static void latest() {
        C.says("The LATEST PROOF (none at first)");
        UnitProver x = Checks.stocked();
        C.due("proof(0)", x.proof(0), -3);
        C.due("count(3)", x.count(3), 0);
        C.says("of the latest FORMULA without FAULT;");
        C.judged(x, "1+1", 3, 1);
        C.proved(x, "1+1+", -104);
        C.due("count(3)", x.count(3), 3);
        C.proved(x, "", -100);
        C.due("proof(0)", x.proof(0), 1);
        C.judged(x, "1zz", 0, -8);
        C.due("count(3)", x.count(3), 0);
        C.proved(x, "1+", -102);
        C.due("proof(0)", x.proof(0), -8);
        C.says("it stays as it was proved, whatever becomes of UNITS (by drop(), undo(), too).");
        x.image();
        Checks.define(x, "u=7s");
        C.judged(x, "2u+3u=35s", 5, 1);
        x.drop();
        C.due("value(0, 0) without its UNIT", x.value(0, 0), 14);
        Checks.define(x, "u=8m");
        C.due("value(0, 0) by another one", x.value(0, 0), 14);
        C.due("step(0, 3)", x.step(0, 3), 101);
        x.undo();
        C.due("value(1, 0) after undo()", x.value(1, 0), 21);
        C.due("proof(3)", x.proof(3), 1);
    }

    private static void proveAnswers() {
        C.says("THE TAPE is a FORMULA: how many STEPS its PROOF has that are not WRONG.");
        C.proves("1+2", 3);
        C.judges("1+m", 2, -13);
        C.judges("zz", 0, -8);
        C.judges("1+2+m+4", 4, -13);
        C.says("(it is no STEP that is told or counted, those ahead of it are)");
        UnitProver x = Checks.stocked();
        Checks.prove(x, "1+2+m+4");
        C.due("proof(1)", x.proof(1), 4);
        C.due("proof(4)", x.proof(4), 3);
        C.due("count(3)", x.count(3), 4);
        C.due("step(3, 0)", x.step(3, 0), 0);
        C.due("step(4, 0)", x.step(4, 0), -1);
        C.no("value(4, 0)", x.value(4, 0));
        C.due("value(2, 0)", x.value(2, 0), 3);
        C.due("same(3, 4)", x.same(3, 4), -1);
        C.due("hold(1, 0, 4)", x.hold(1, 0, 4), -1);
        C.due("hold(1, 0, 3)", x.hold(1, 0, 3), 1);
    }

    private static void proofAnswers() {
        C.says("STATE: there is none; NONE: what.");
        UnitProver x = Checks.stocked();
        for (int what = -1; what <= 5; what++) {
            C.due("proof(" + what + ")", x.proof(what), -3);
        }
        proof(x, "1", 1, 1, 0, 0, 1);
        proof(x, "5yd2ft=5yd2ft", 1, 3, 1, 1, 2);
        proof(x, "1=2", 1, 3, 1, 0, 2);
        proof(x, "m-m=0g*m/g", 1, 9, 1, 1, 5);
        proof(x, "1=m", -13, 2, 1, 0, 2);
        proof(x, "zz=zz", -8, 0, 1, 0, 0);
        proof(x, "c*1=c", -10, 2, 1, 0, 2);
        proof(x, "1/0", -9, 2, 0, 0, 2);
        C.due("proof(-1)", x.proof(-1), -1);
        C.due("proof(5)", x.proof(5), -1);
        C.due("proof(least)", x.proof(Integer.MIN_VALUE), -1);
        C.due("proof(most)", x.proof(Integer.MAX_VALUE), -1);
    }

    private static void proof(UnitProver x, String text, int... answers) {
        C.says("3 whether both sides are the same (1, 0; 0 without =, or not HELD)");
        Checks.prove(x, text);
        for (int what = 0; what < 5; what++) {
            C.due("proof(" + what + ") of " + text, x.proof(what), answers[what]);
        }
    }

    private static void stepAnswers() {
        C.says("Of STEP i what 0 KIND, 1 .. 5 POWER (-18 .. 18) of BASE what less 1 and 100, 6 the sign of its VALUE and 1. STATE; NONE: i, what.");
        UnitProver x = Checks.stocked();
        C.due("step(0, 0)", x.step(0, 0), -3);
        C.due("step(-1, -1)", x.step(-1, -1), -3);
        Checks.prove(x, "m*g/s*k/a-2m*g/s*k/a");
        int[] powers = {101, 101, 99, 101, 99};
        int last = x.count(3) - 1;
        for (int base = 0; base < 5; base++) {
            C.due("POWER of " + base, x.step(last, base + 1), powers[base]);
        }
        C.due("sign", x.step(last, 6), 0);
        C.due("sign", x.step(0, 6), 2);
        C.due("step(0, -1)", x.step(0, -1), -1);
        C.due("step(0, 7)", x.step(0, 7), -1);
        C.due("step(-1, 0)", x.step(-1, 0), -1);
        C.due("step behind the last", x.step(last + 1, 0), -1);
        Checks.prove(x, "m-m");
        C.due("sign of 0", x.step(2, 6), 1);
        Checks.define(x, "w=1m4*m4*m");
        Checks.prove(x, "w*w=s/(s/w/w)");
        C.due("POWER 18", x.step(2, 1), 118);
        Checks.prove(x, "s/w/w");
        C.due("POWER -18", x.step(4, 1), 82);
        C.due("POWER of s", x.step(4, 3), 101);
    }

    private static void valueAnswers() {
        C.says("VALUE of STEP i. NO: no LATEST PROOF, i, part.");
        UnitProver x = Checks.stocked();
        C.no("value(0, 0)", x.value(0, 0));
        Checks.prove(x, "3/2");
        C.pair("value(2)", x.value(2, 0), x.value(2, 1), 3, 2);
        C.no("value(-1, 0)", x.value(-1, 0));
        C.no("value(3, 0)", x.value(3, 0));
        C.no("value(2, -1)", x.value(2, -1));
        C.no("value(2, 2)", x.value(2, 2));
    }

    private static void sameAnswers() {
        C.says("whether they have the same DIMENSION: 2 and the same VALUE, 1 that alone, 0 not. STATE; NONE.");
        UnitProver x = Checks.stocked();
        C.due("same(0, 0)", x.same(0, 0), -3);
        C.due("same(-1, 9)", x.same(-1, 9), -3);
        Checks.prove(x, "2m*(3s/s)=600cm");
        C.due("same(0, 5)", x.same(0, 5), 1);
        C.due("same(4, 5)", x.same(4, 5), 2);
        C.due("same(5, 4)", x.same(5, 4), 2);
        C.due("same(0, 1)", x.same(0, 1), 0);
        C.due("same(1, 1)", x.same(1, 1), 2);
        C.due("same(6, 6)", x.same(6, 6), 2);
        C.due("same(7, 0)", x.same(7, 0), -1);
        C.due("same(0, 7)", x.same(0, 7), -1);
        C.due("same(-1, 0)", x.same(-1, 0), -1);
        C.due("same(0, -1)", x.same(0, -1), -1);
    }
}
