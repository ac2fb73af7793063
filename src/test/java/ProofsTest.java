/** Promises 11 to 15: formulas, their FAULTS, and the STEPS of their PROOFS. */
public final class ProofsTest {
    private static final Checks C = new Checks("ProofsTest");

    public static void main(String[] args) {
        faults();
        figures();
        steps();
        worth();
        shifted();
        unlikeAndOrder();
        noughtWideOver();
        firstOfAStep();
        sums();
        latest();
        sameSteps();
        C.close();
    }

    private static void faults() {
        UnitProver x = Checks.stocked();
        String[] texts = {"", "+1", "-1", "1+", "1+*", "1=", "=1", "1=1=1", "1==1", "()", "(1", "(1=1)", "1)", "(1))", "1 +1",
            "1234567", "1.", "1.m", "1.2345", ".5", "1..5", "m5", "m0", "m22", "m2m", "mm3m", "mnopq", "1mnopq", "1m+",
            "2(3)", "(2)3", "(2)(3)", "m(2)", "((((1))))", "(((((1)))))", "(1)+((((1)", "1m/", "1*/1", "M", "1m2M", "1m2.m", "1+-1", "1-+1", "1*/m", "1/*m", "1=-1", "1=+1", "1++1", "1--1", "1**1"};
        int[] faults = {0, 0, 0, 2, 2, 2, 0, 3, 2, 1, 2, 2, 1, 3, 1,
            6, 2, 2, 5, 0, 2, 1, 1, 2, 2, 3, 4, 5, 3,
            1, 3, 3, 1, -1, 4, 10, 3, 2, 0, 3, 4, 2, 2, 2, 2, 2, 2, 2, 2, 2};
        for (int i = 0; i < texts.length; i++) {
            // anew each time: what an object answers behind 512 calls is free
            x = Checks.stocked();
            C.proved(x, texts[i], faults[i] < 0 ? 1 : -100 - faults[i]);
            C.due("THE TAPE is empty", x.count(2), 0);
        }
        x = Checks.stocked();
        C.proved(x, "1=((((1))))", 3);
        C.proved(x, "1=(((((1", -106);
        C.proved(x, "((((1=", -105);
        C.proved(x, "((((1+m)*2+3)*4+5)*6+7)*8+9*(1+2*(3+4*(5+6*(7+8)))", -150);
        C.proved(x, "1+1+1+1+1+1+1+1+1+1+1+1+1+1+1+1+1+1+1+1+1+1+1+1+1+1+1+1+1+1", 59);
        C.proved(x, "1+1+1+1+1+1+1+1+1+1+1+1+1+1+1+1+1+1+1+1+1+1+1+1+1+1+1+1+1+1+", -160);
    }

    private static void figures() {
        UnitProver x = Checks.stocked();
        C.judged(x, "5m2", 1, 1);
        C.due("POWER", x.step(0, 1), 102);
        C.proved(x, "5m25", -104);
        C.proved(x, "5m7", -103);
        C.proved(x, "5m0", -103);
        C.proved(x, "5m2+", -104);
        C.proved(x, "5m25+", -104);
        C.proved(x, "5m5+", -103);
        C.judged(x, "5m2in", 1, 1);
        C.due("POWER", x.step(0, 1), 101);
        C.judged(x, "5m2.5in", 1, 1);
        C.proved(x, "5m2.5", -105);
        C.proved(x, "5m2in3", -106);
        C.proved(x, "5m2in3+", -106);
        C.judged(x, "5m2yd2ft3in", 1, 1);
        C.proved(x, "5m2yd2ft3in4", -111);
        C.proved(x, "5m2yd2ft3in4cm", -111);
        C.judged(x, "5m2*3", 3, 1);
        C.judged(x, "(5m2)", 1, 1);
        C.judged(x, "5m4/m4", 3, 1);
        C.judged(x, "m1=m", 3, 1);
        C.due("both sides are the same", x.proof(3), 1);
    }

    private static void kinds(UnitProver x, String text, int... kinds) {
        C.judged(x, text, kinds.length, 1);
        int parts = 0;
        for (int i = 0; i < kinds.length; i++) {
            C.due("KIND of STEP " + i + " of " + text, x.step(i, 0), kinds[i]);
            parts += kinds[i] == 0 ? 1 : 0;
        }
        C.due("STEPS of KIND 0 of " + text, x.proof(4), parts);
        C.due("count(3)", x.count(3), kinds.length);
        C.due("no STEP behind", x.step(kinds.length, 0), -1);
    }

    private static void steps() {
        UnitProver x = Checks.stocked();
        C.due("proof(0) without one", x.proof(0), -3);
        C.due("proof(9) without one", x.proof(9), -3);
        C.due("step(9, 9) without one", x.step(9, 9), -3);
        kinds(x, "1", 0);
        kinds(x, "1+2*3", 0, 0, 0, 1, 3);
        kinds(x, "1*2+3", 0, 0, 1, 0, 3);
        kinds(x, "1-2-3", 0, 0, 4, 0, 4);
        kinds(x, "1/2*3/4", 0, 0, 2, 0, 1, 0, 2);
        kinds(x, "(1+2)*3=9", 0, 0, 3, 0, 1, 0, 5);
        kinds(x, "2*(1+2)", 0, 0, 0, 3, 1);
        kinds(x, "1+2*3-4/5=6", 0, 0, 0, 1, 3, 0, 0, 2, 4, 0, 5);
        kinds(x, "((((2))))", 0);
        C.due("proof(2)", x.proof(2), 0);
        C.due("proof(3) without =", x.proof(3), 0);
        C.due("proof(5)", x.proof(5), -1);
        C.due("proof(-1)", x.proof(-1), -1);
        C.due("step(0, 7)", x.step(0, 7), -1);
        C.due("step(0, -1)", x.step(0, -1), -1);
        C.due("step(-1, 0)", x.step(-1, 0), -1);
        Checks.prove(x, "2m=3m");
        C.due("proof(2)", x.proof(2), 1);
        C.due("sides are not the same", x.proof(3), 0);
        C.due("but it is HELD", x.proof(0), 1);
        C.due("KIND of =", x.step(2, 0), 5);
        C.due("sign below 0", x.step(2, 6), 0);
        C.pair("left less right", x.value(2, 0), x.value(2, 1), -1, 1);
        Checks.prove(x, "3m/s2-3m/s2");
        C.due("POWER of s", x.step(2, 3), 98);
        C.due("sign of 0", x.step(6, 6), 1);
        C.due("sign above 0", x.step(2, 6), 2);
        C.due("proof(2)", x.proof(2), 0);
    }

    private static void worth(UnitProver x, String text, long above, long below) {
        Checks.prove(x, text);
        int last = x.count(3) - 1;
        C.due("proof(0) of " + text, x.proof(0), 1);
        C.pair("VALUE of " + text, x.value(last, 0), x.value(last, 1), above, below);
    }

    private static void worth() {
        UnitProver x = Checks.stocked();
        C.due("value(0, 0) without PROOF", x.value(0, 0), Checks.NO);
        worth(x, "0", 0, 1);
        worth(x, "2.50", 5, 2);
        worth(x, "999999.999", 999999999, 1000);
        worth(x, "in", 127, 5000);
        worth(x, "in2", 16129, 25000000);
        worth(x, "50in2", 16129, 500000);
        worth(x, "2ft6in", 381, 500);
        worth(x, "1.5ft0.5in", 4699, 10000);
        worth(x, "1yd2ft3in4cm", 8201, 5000);
        worth(x, "20c", 5863, 20);
        worth(x, "c", 5483, 20);
        worth(x, "c1", 5483, 20);
        worth(x, "32f", 5463, 20);
        worth(x, "0c+0c", 5463, 10);
        worth(x, "1/3+1/6", 1, 2);
        worth(x, "1/3-1/2", -1, 6);
        worth(x, "1/(1-3)", -1, 2);
        worth(x, "(1-3)/(2-6)", 1, 2);
        worth(x, "5g/2", 5, 2);
        worth(x, "2n", 2000, 1);
        C.due("value(-1, 0)", x.value(-1, 0), Checks.NO);
        C.due("value(1, 0)", x.value(1, 0), Checks.NO);
        C.due("value(0, 2)", x.value(0, 2), Checks.NO);
        C.due("value(0, -1)", x.value(0, -1), Checks.NO);
    }

    private static void shifted() {
        UnitProver x = Checks.stocked();
        C.judged(x, "c2", 0, -10);
        C.judged(x, "5c3", 0, -10);
        C.judged(x, "5k3c", 0, -10);
        C.judged(x, "5c3k", 0, -10);
        C.judged(x, "5c*2", 2, -10);
        C.judged(x, "2*5c", 2, -10);
        C.judged(x, "c/2", 2, -10);
        C.judged(x, "2/c1", 2, -10);
        C.judged(x, "2*3*5c", 4, -10);
        C.judged(x, "5c*2*3", 2, -10);
        C.judged(x, "1+2*c", 3, -10);
        C.judged(x, "(5c)*2", 3, 1);
        C.judged(x, "2*((c))", 3, 1);
        C.judged(x, "(5c)*5c", 2, -10);
        C.judged(x, "(5c-3c)/2", 5, 1);
        C.judged(x, "(5c*2)", 2, -10);
        C.judged(x, "5c+3f=7k", 5, 1);
    }

    private static void unlikeAndOrder() {
        UnitProver x = Checks.stocked();
        C.judged(x, "3m+4s", 2, -13);
        C.judged(x, "3m-4", 2, -13);
        C.judged(x, "m=g", 2, -13);
        C.judged(x, "m2=m*m", 5, 1);
        C.judged(x, "m2=m", 2, -13);
        C.due("it has a =", x.proof(2), 1);
        C.due("sides of no HELD one", x.proof(3), 0);
        C.judged(x, "3m4s", 0, -13);
        C.judged(x, "3ft4s5in", 0, -13);
        C.judged(x, "3in4ft", 0, -14);
        C.judged(x, "3in4in", 0, -14);
        C.judged(x, "3yd4ft5ft", 0, -14);
        C.judged(x, "2*3ft4in", 3, 1);
        C.judged(x, "1m/s+3m", 4, -13);
    }

    private static void noughtWideOver() {
        UnitProver x = Checks.stocked();
        C.judged(x, "1/0", 2, -9);
        C.judged(x, "1/(m-m)", 4, -9);
        C.judged(x, "0/5", 3, 1);
        Checks.define(x, "w=1m4*m4*m");
        C.judged(x, "w*w", 3, 1);
        C.due("POWER 18", x.step(2, 1), 118);
        C.judged(x, "w2", 1, 1);
        C.judged(x, "w3", 0, -12);
        C.judged(x, "w*w*m", 4, -12);
        C.judged(x, "s/w/w", 5, 1);
        C.due("POWER -18", x.step(4, 1), 82);
        C.judged(x, "s/w/w/m", 6, -12);
        C.judged(x, "w2/m*m", 5, 1);
        x = Checks.stocked();
        C.judged(x, "999999*999999*999999", 5, 1);
        C.judged(x, "999999*999999*999999*9", 7, 1);
        C.judged(x, "999999*999999*999999*10", 6, -15);
        C.judged(x, "999999*999999*999999*10/10", 6, -15);
        C.judged(x, "65536*65536*65536*32768", 6, -15);
        C.judged(x, "65536*65536*32768*65535", 7, 1);
        C.judged(x, "0-65536*65536*65536*32768", 7, -15);
        C.judged(x, "65536*65536*65536*16384", 7, 1);
        C.judged(x, "65536*65536*65536*16384*(0-2)", 10, -15);
        C.judged(x, "65536*65536*65536*16384/(0-2)*(0-1)", 15, 1);
        Checks.define(x, "t=999983m");
        C.judged(x, "t3", 1, 1);
        C.judged(x, "t4", 0, -15);
        C.judged(x, "0t4", 1, 1);
        C.judged(x, "1/999983/999979/999961+1", 9, 1);
        C.judged(x, "1/999983/999979/999961+10", 8, -15);
        C.judged(x, "1/999983/999979/999961=1/999959/999953", 12, -15);
    }

    private static void firstOfAStep() {
        UnitProver x = Checks.stocked();
        C.judged(x, "zz", 0, -8);
        C.judged(x, "1+2zz", 1, -8);
        C.judged(x, "5c3zz", 0, -8);
        C.judged(x, "5m3c2zz", 0, -8);
        C.judged(x, "5m3c", 0, -10);
        C.judged(x, "3in4ft5s", 0, -13);
        C.judged(x, "3in4ft5s2c", 0, -10);
        C.judged(x, "c/(m-m)", 4, -10);
        C.judged(x, "c/0", 2, -10);
        Checks.define(x, "w=1m4*m4*m");
        C.judged(x, "w2/(0/m)", 4, -9);
        C.judged(x, "5zz/0+c2", 0, -8);
        Checks.define(x, "t=999983w");
        C.judged(x, "t4", 0, -12);
    }

    private static void sums() {
        UnitProver x = new UnitProver();
        Checks.define(x, "p=1/999983m");
        Checks.define(x, "q=1/999979p");
        Checks.define(x, "r=1/999961m");
        C.judged(x, "q+q", 3, 1);
        C.pair("like belows stay", x.value(2, 0), x.value(2, 1), 2, 999983L * 999979L);
        C.judged(x, "q+r", 3, 1);
        C.due("below", x.value(2, 1), 999983L * 999979L * 999961L);
        C.judged(x, "10q+r", 3, 1);
        C.judged(x, "m*10+q+r", 6, -15);
        C.judged(x, "q+10m+r", 4, -15);
    }

    private static void latest() {
        UnitProver x = Checks.stocked();
        Checks.prove(x, "2yd1ft");
        C.proved(x, "2yd5", -104);
        C.due("a FAULT leaves the LATEST PROOF", x.value(0, 0), 2667);
        for (int i = 0; i < 7; i++) {
            x.drop();
        }
        C.due("it stays without its UNITS", x.value(0, 1), 1250);
        C.due("proof(0)", x.proof(0), 1);
        C.judged(x, "2yd1ft", 0, -8);
        C.due("a WRONG one is the latest, too", x.value(0, 0), Checks.NO);
        C.due("count(3)", x.count(3), 0);
        C.due("step(0, 0)", x.step(0, 0), -1);
    }

    private static void sameSteps() {
        UnitProver x = Checks.stocked();
        C.due("same(0, 0) without PROOF", x.same(0, 0), -3);
        Checks.prove(x, "1ft-12in=3ft-1yd");
        C.due("same(0, 0)", x.same(0, 0), 2);
        C.due("same(0, 1)", x.same(0, 1), 2);
        C.due("same(0, 2)", x.same(0, 2), 1);
        C.due("same(2, 5)", x.same(2, 5), 2);
        C.due("same(6, 2)", x.same(6, 2), 2);
        C.due("same(0, 7)", x.same(0, 7), -1);
        C.due("same(-1, 0)", x.same(-1, 0), -1);
        Checks.prove(x, "1m+4s");
        C.due("same(0, 1) of other DIMENSIONS", x.same(0, 1), 0);
        C.due("same(0, 2), which is WRONG", x.same(0, 2), -1);
    }
}
