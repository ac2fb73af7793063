/** One test for each sentence about THE TAPE, DEFINITIONS and UNITS that names a bound, an order or a refusal. */
public final class DefinitionBoundsTest {
    private static final Checks C = new Checks("DefinitionBoundsTest");

    public static void main(String[] args) {
        theTape();
        unitsAtFirst();
        twentyUnits();
        names();
        powersOfBases();
        ratios();
        offsets();
        products();
        figures();
        factorsOneByOne();
        wideAtTheEnd();
        toldOffsetOfNought();
        faultPlaces();
        faultEnds();
        unknown();
        nought();
        shifted();
        firstFromTheLeft();
        twice();
        badOffset();
        wide();
        over();
        full();
        orderBehindPlaces();
        C.close();
    }

    private static void theTape() {
        C.says("A byte (1 .. 127) comes behind THE TAPE's: how many it has.");
        UnitProver x = new UnitProver();
        C.due("feed(1)", x.feed(1), 1);
        C.due("feed(127)", x.feed(127), 2);
        C.says("BAD; FULL.");
        for (int letter : new int[] {0, 128, -1, 256 + 'm', Integer.MIN_VALUE, Integer.MAX_VALUE}) {
            C.due("feed(" + letter + ")", x.feed(letter), -2);
            C.due("count(2)", x.count(2), 2);
        }
        C.says("A DEFINITION is read from THE TAPE (60 bytes at most)");
        for (int i = 3; i <= 60; i++) {
            C.due("feed('a')", x.feed('a'), i);
        }
        C.due("a byte too many", x.feed('a'), -4);
        C.due("a wrong byte too many", x.feed(128), -2);
        C.due("count(2)", x.count(2), 60);
        C.due("define()", x.define(), -100);
        C.due("feed('a') anew", x.feed('a'), 1);
    }

    private static void unitsAtFirst() {
        C.says("Five UNITS.");
        UnitProver x = new UnitProver();
        C.due("count(0)", x.count(0), 5);
        C.says("0 .. 4 are there at first, named m, g, s, k, a");
        for (int i = 0; i < 5; i++) {
            C.due("find()", Checks.find(x, "mgska".substring(i, i + 1)), i);
            C.due("name(" + i + ", -1)", x.name(i, -1), 1);
            for (int base = 0; base < 5; base++) {
                C.due("power(" + i + ", " + base + ")", x.power(i, base), i == base ? 11 : 10);
            }
        }
        C.due("name(5, -1)", x.name(5, -1), -1);
        C.says("BASES' own: FACTOR 1.");
        for (int i = 0; i < 5; i++) {
            C.pair("FACTOR of " + i, x.scale(i, 0, 0), x.scale(i, 0, 1), 1, 1);
            C.pair("OFFSET of " + i, x.scale(i, 1, 0), x.scale(i, 1, 1), 0, 1);
        }
    }

    private static void twentyUnits() {
        C.says("UNITS 0, 1, .. as they come (20 at most;");
        UnitProver x = new UnitProver();
        for (int i = 5; i < 20; i++) {
            C.defined(x, "x" + (char) ('a' + i) + "=" + i + "m", i);
        }
        C.defined(x, "y=1m", -4);
        C.due("count(0)", x.count(0), 20);
        C.due("the last one", x.scale(19, 0, 0), 19);
        C.due("none behind it", x.name(20, -1), -1);
        C.due("drop()", x.drop(), 19);
        C.defined(x, "y=1m", 19);
    }

    private static void names() {
        C.says("each a NAME (1 to 4 letters a .. z)");
        C.defines("b=1m", 12);
        C.defines("az=1m", 12);
        C.defines("azaz=1m", 12);
        C.definesNot("=1m", 0);
        C.definesNot("azaza=1m", 4);
        C.definesNot("`=1m", 0);
        C.definesNot("{=1m", 0);
        C.definesNot("a`=1m", 1);
        C.definesNot("a{=1m", 1);
        C.definesNot("A=1m", 0);
        C.definesNot("aZ=1m", 1);
        C.definesNot("a1=1m", 1);
        C.definesNot("x=1abcde", 7);
        C.defines("x=1abcd", -8);
    }

    private static void powersOfBases() {
        C.says("a DIMENSION (for each BASE a POWER -9 .. 9)");
        for (int base = 0; base < 5; base++) {
            char own = "mgska".charAt(base);
            char other = "mgska".charAt((base + 1) % 5);
            UnitProver x = new UnitProver();
            C.defined(x, "hi=1" + own + "4*" + own + "4*" + own, 5);
            C.due("power of " + own, x.power(5, base), 19);
            C.defined(x, "lo=1" + other + "/" + own + "4/" + own + "4/" + own, 6);
            C.due("power of " + own, x.power(6, base), 1);
            C.defined(x, "xhi=1" + own + "4*" + own + "4*" + own + "2", -12);
            C.defined(x, "xlo=1" + other + "/" + own + "4/" + own + "4/" + own + "2", -12);
        }
    }

    private static void ratios() {
        C.says("RATIO: NUMBER, or NUMBER / NUMBER (1 .. 6 figures each).");
        UnitProver x = new UnitProver();
        C.defined(x, "aa=1m", 5);
        C.defined(x, "ab=999999m", 6);
        C.defined(x, "ac=999999/999998m", 7);
        C.defined(x, "ad=000004/000006m", 8);
        C.defined(x, "ae=999999/999999m", 9);
        C.pair("aa", x.scale(5, 0, 0), x.scale(5, 0, 1), 1, 1);
        C.pair("ab", x.scale(6, 0, 0), x.scale(6, 0, 1), 999999, 1);
        C.pair("ac", x.scale(7, 0, 0), x.scale(7, 0, 1), 999999, 999998);
        C.pair("ad, in lowest terms", x.scale(8, 0, 0), x.scale(8, 0, 1), 2, 3);
        C.pair("ae", x.scale(9, 0, 0), x.scale(9, 0, 1), 1, 1);
        C.definesNot("x=m", 2);
        C.definesNot("x=1234567m", 8);
        C.definesNot("x=0000001m", 8);
        C.definesNot("x=1/m", 4);
        C.definesNot("x=/1m", 2);
        C.definesNot("x=1/1234567m", 10);
        C.definesNot("x=1/2/3m", 5);
        C.definesNot("x=1.5m", 3);
    }

    private static void offsets() {
        C.says("and: nothing, or + or -, RATIO (the OFFSET; below 0 by -)");
        UnitProver x = new UnitProver();
        C.defined(x, "aa=1m", 5);
        C.defined(x, "ab=1m+999999/999998", 6);
        C.defined(x, "ac=1m-999999/999998", 7);
        C.defined(x, "ad=1m-6/4", 8);
        C.defined(x, "ae=1m+3", 9);
        C.pair("none", x.scale(5, 1, 0), x.scale(5, 1, 1), 0, 1);
        C.pair("by +", x.scale(6, 1, 0), x.scale(6, 1, 1), 999999, 999998);
        C.pair("by -", x.scale(7, 1, 0), x.scale(7, 1, 1), -999999, 999998);
        C.pair("in lowest terms", x.scale(8, 1, 0), x.scale(8, 1, 1), -3, 2);
        C.pair("a whole one", x.scale(9, 1, 0), x.scale(9, 1, 1), 3, 1);
        C.definesNot("x=1m+", 5);
        C.definesNot("x=1m-", 5);
        C.definesNot("x=1m+1234567", 11);
        C.definesNot("x=1m-1/", 7);
        C.definesNot("x=1m-1/1234567", 13);
        C.definesNot("x=1m+-1", 5);
        C.definesNot("x=1m--1", 5);
        C.definesNot("x=1m+1m", 6);
        C.definesNot("x=1m+1-1", 6);
    }

    private static void products() {
        C.says("PRODUCT: POWER, any number of * or / and POWER.");
        UnitProver x = new UnitProver();
        StringBuilder longest = new StringBuilder("x=6m");
        for (int i = 0; i < 28; i++) {
            longest.append(i % 2 == 0 ? "*g" : "/g");
        }
        C.due("60 bytes", longest.length(), 60);
        C.defined(x, longest.toString(), 5);
        C.due("power(5, 0)", x.power(5, 0), 11);
        C.due("power(5, 1)", x.power(5, 1), 10);
        C.defined(x, "xy=1m" + longest.substring(4, 58) + "*", -160);
        C.defined(x, "y=2m*g/s*k/a", 6);
        for (int base = 0; base < 5; base++) {
            C.due("power(6, " + base + ")", x.power(6, base), base % 2 == 0 && base > 0 ? 9 : 11);
        }
        C.definesNot("x=1", 3);
        C.definesNot("x=1*m", 3);
        C.definesNot("x=1m*", 5);
        C.definesNot("x=1m/", 5);
        C.definesNot("x=1m*/g", 5);
        C.definesNot("x=1m*2g", 5);
        C.definesNot("x=1m(g)", 4);
    }

    private static void figures() {
        C.says("POWER: NAME, and a figure 1 .. 4 or none (1).");
        UnitProver x = new UnitProver();
        C.defined(x, "aa=1m", 5);
        for (int i = 1; i <= 4; i++) {
            C.defined(x, "a" + (char) ('a' + i) + "=1m" + i, 5 + i);
            C.due("power(" + (5 + i) + ", 0)", x.power(5 + i, 0), 10 + i);
        }
        C.due("power(5, 0)", x.power(5, 0), 11);
        C.definesNot("x=1m0", 4);
        C.definesNot("x=1m5", 4);
        C.definesNot("x=1m9", 4);
        C.definesNot("x=1m44", 5);
        C.definesNot("x=1m*g0", 6);
        C.definesNot("x=1m*g5", 6);
    }

    private static void factorsOneByOne() {
        C.says("times the FACTOR of each UNIT (behind / divided by it), one by one as often as its figure says (each of these products by the rule of FRACTIONS)");
        UnitProver x = new UnitProver();
        C.defined(x, "b=999999m", 5);
        C.defined(x, "c=999999b", 6);
        C.defined(x, "d=999999c", 7);
        C.defined(x, "ea=1d*d/d", -15);
        C.defined(x, "ea=1d/d*d", 8);
        C.pair("ea", x.scale(8, 0, 0), x.scale(8, 0, 1), 999999L * 999999L * 999999L, 1);
        C.defined(x, "eb=1s/d*c2", 9);
        C.pair("c twice, not its square", x.scale(9, 0, 0), x.scale(9, 0, 1), 999999, 1);
        C.defined(x, "ec=1s*d/c2", 10);
        C.pair("by c twice", x.scale(10, 0, 0), x.scale(10, 0, 1), 1, 999999);
    }

    private static void wideAtTheEnd() {
        C.says("DIMENSION likewise (only as it is at the end it counts for WIDE)");
        UnitProver x = new UnitProver();
        C.defined(x, "b=1m4*m4*m4/m3", 5);
        C.due("power(5, 0)", x.power(5, 0), 19);
        C.defined(x, "c=1s/m4/m4/m4*m3", 6);
        C.due("power(6, 0)", x.power(6, 0), 1);
        C.defined(x, "d=1b4/b3", 7);
        C.due("power(7, 0)", x.power(7, 0), 19);
        C.defined(x, "e=1m4*m4*m4/m2", -12);
    }

    private static void toldOffsetOfNought() {
        C.says("An OFFSET of 0 that is told counts as told, but the UNIT has none then.");
        C.defines("x=1m2+0", -2);
        C.defines("x=1m*g-0/7", -2);
        UnitProver x = new UnitProver();
        C.defined(x, "b=3m+0", 5);
        C.defined(x, "c=3m-0/7", 6);
        C.pair("OFFSET", x.scale(6, 1, 0), x.scale(6, 1, 1), 0, 1);
        C.defined(x, "d=1b*c2", 7);
        C.pair("ratio(5, 6)", x.ratio(5, 6, 0), x.ratio(5, 6, 1), 1, 1);
        C.judged(x, "2b*c", 3, 1);
    }

    private static void faultPlaces() {
        C.says("FAULT: the place (from 0) of the first byte with which none goes on so;");
        String text = "abcd=123456/123456abcd4*abcd/abcd+123456/123456";
        // of each place a byte that never stands there, and not one place later
        for (int i = 0; i < text.length(); i++) {
            C.definesNot(text.substring(0, i) + "." + text.substring(i), i);
            C.definesNot(text.substring(0, i) + "~" + text.substring(i + 1), i);
        }
        C.definesNot(text + "7", text.length());
        C.definesNot(text + "+1", text.length());
        C.definesNot("?", 0);
        // the bytes next to the figures and the letters
        for (String next : new String[] {":", "`", "{", "@", "[", "0", "5"}) {
            C.definesNot("x=1m" + next, 4);
        }
        for (String next : new String[] {":", ".", "`", "{"}) {
            C.definesNot("x=" + next + "m", 2);
            C.definesNot("x=1" + next + "m", 3);
            C.definesNot("x=1/" + next + "m", 4);
            C.definesNot("x=1m+" + next, 5);
            C.definesNot("x=1m+1/" + next, 7);
        }
        C.definesNot("x=1m m", 4);
    }

    private static void faultEnds() {
        C.says("the length, if it ends too early.");
        String text = "ab=12/34m2*g/s-5/6";
        int[] whole = {9, 10, 12, 14};
        for (int length = 0; length < 15; length++) {
            boolean ends = false;
            for (int place : whole) {
                ends |= place == length;
            }
            if (ends) {
                C.defines(text.substring(0, length), 12);
            } else {
                C.definesNot(text.substring(0, length), length);
            }
        }
        C.definesNot(text.substring(0, 15), 15);
        C.defines(text.substring(0, 16), -2);
        C.definesNot(text.substring(0, 17), 17);
        C.defines(text, -2);
    }

    private static void unknown() {
        C.says("UNKNOWN (-8): a NAME that there is not (of a PRODUCT, a FORMULA)");
        C.defines("x=1zz", -8);
        C.defines("x=1m*zz", -8);
        C.defines("x=1m/zz", -8);
        C.defines("x=1zz+1", -8);
        C.defines("x=1x", -8);
        C.defines("x=1i", -8);
        C.defines("x=1cmm", -8);
        C.defines("zz=1m", 12);
        UnitProver x = Checks.stocked();
        x.drop();
        C.defined(x, "x=1n", -8);
    }

    private static void nought() {
        C.says("NOUGHT (-9): a NUMBER 0 below (also of the OFFSET), or a RATIO of 0 ahead of PRODUCT, both at the RATIO's place");
        C.defines("x=1/0m", -9);
        C.defines("x=1/000000m", -9);
        C.defines("x=0m", -9);
        C.defines("x=000000m", -9);
        C.defines("x=0/5m", -9);
        C.defines("x=0/0m", -9);
        C.defines("x=1m+1/0", -9);
        C.defines("x=1m-0/0", -9);
        C.defines("x=1m+0/1", 12);
        C.defines("x=0zz", -9);
        C.defines("x=1/0c", -9);
        C.defines("x=1zz+1/0", -8);
        C.defines("x=1c+1/0", -10);
        C.defines("m=1m2+1/0", -9);
    }

    private static void shifted() {
        C.says("SHIFTED (-10): a UNIT with an OFFSET where none may be (in a PRODUCT)");
        C.defines("x=1c", -10);
        C.defines("x=2c1", -10);
        C.defines("x=1c2", -10);
        C.defines("x=1m*c", -10);
        C.defines("x=1m/f", -10);
        C.defines("x=1c+1", -10);
        C.defines("x=1k", 12);
    }

    private static void firstFromTheLeft() {
        C.says("Behind a text without FAULT, of several the first from the left");
        C.defines("x=0zz*c+1/0", -9);
        C.defines("x=1zz*c+1/0", -8);
        C.defines("x=1c*zz+1/0", -10);
        C.defines("x=1m*zz*c", -8);
        C.defines("x=1m*c*zz", -10);
        C.defines("x=1m+1/0", -9);
        // a FAULT goes ahead of them all
        C.definesNot("x=0zz*c+1/", 10);
    }

    private static void twice() {
        C.says("then TWICE (-11): the NAME that is defined is there already");
        C.defines("m=1s", -11);
        C.defines("a=1m", -11);
        C.defines("cm=1m", -11);
        C.defines("n=1m", -11);
        C.defines("cmm=1m", 12);
        C.defines("i=1m", 12);
        UnitProver x = Checks.stocked();
        x.drop();
        C.defined(x, "n=1m", 11);
    }

    private static void badOffset() {
        C.says("an OFFSET, but the PRODUCT is not one POWER with figure 1 or none: BAD");
        C.defines("x=1m+1", 12);
        C.defines("x=1m1+1", 12);
        C.defines("x=1m2+1", -2);
        C.defines("x=1m4-1", -2);
        C.defines("x=1m*g+1", -2);
        C.defines("x=1m/g-1", -2);
        C.defines("x=1m*g/g+1", -2);
        C.defines("x=1n+1", 12);
    }

    private static void wide() {
        C.says("a POWER of DIMENSION beyond 9: WIDE (-12)");
        C.defines("x=1m4*m4*m1", 12);
        C.defines("x=1m4*m4*m2", -12);
        C.defines("x=1s/m4/m4/m2", -12);
        C.defines("x=1n4*n4*n", -12);
        C.defines("x=1n4", 12);
    }

    private static void over() {
        C.says("OVER (-15); FULL.");
        UnitProver x = new UnitProver();
        C.defined(x, "b=999999m", 5);
        C.defined(x, "c=999999b", 6);
        C.defined(x, "d=999999c", 7);
        C.defined(x, "e=9d", 8);
        C.defined(x, "x=10d", -15);
        C.defined(x, "x=1/10s/d", -15);
        C.defined(x, "h=1/9s/d", 9);
        C.defined(x, "x=3d*b/b", -15);
        C.due("count(0)", x.count(0), 10);
    }

    private static void full() {
        C.says("OVER (-15); FULL.");
        UnitProver x = new UnitProver();
        Checks.define(x, "b=999999m");
        Checks.define(x, "c=999999b");
        Checks.define(x, "d=999999c");
        for (int i = 8; i < 20; i++) {
            Checks.define(x, "u" + (char) ('a' + i) + "=1m");
        }
        C.defined(x, "x=1m", -4);
        C.defined(x, "x=10d", -15);
        C.defined(x, "x=1m4*m4*m4", -12);
        C.defined(x, "x=1m2+1", -2);
        C.defined(x, "d=1m", -11);
        C.defined(x, "x=1zz", -8);
        C.defined(x, "x=0m", -9);
        C.defined(x, "x=1m?", -104);
    }

    private static void orderBehindPlaces() {
        C.says("refused as told (-8 to -12, -2, -15, -4).");
        C.defines("m=1m4*m4*m4+1/0", -9);
        C.defines("m=1m4*m4*m4+1", -11);
        C.defines("x=1m4*m4*m4+1", -2);
        UnitProver x = new UnitProver();
        Checks.define(x, "b=999999m");
        C.defined(x, "x=1b4", -15);
        C.defined(x, "x=1b4*m4*m2", -12);
        C.defined(x, "x=1b4*m4*m2+1", -2);
        C.defined(x, "b=1b4*m4*m2+1", -11);
    }
}
