import java.util.Set;

/** FAULTS: every byte behind every beginning of some texts, and every two signs, as the Oracle's state sets see them. */
public final class FaultsTest {
    private static final String[] DEFINITIONS = {"wxyz=1m", "x=123456m", "x=1/2m2*g/s4", "x=123456/123456mnop+123456/123456",
        "x=1m-1/2", "x=1m4*g+5", "x=0m/0", "x=1c*m"};
    private static final String[] FORMULAS = {"1", "123456.125", "1.5m", "m2", "mnop", "1mnop", "5m2", "5m2in", "5m2.5in", "5m25in", "5m0in",
        "5yd2ft3in4cm", "5yd2ft3.125in4cm+1", "123456m123456g123456s123456k", "((((1))))", "(1+2)*(3-m/s2)=4", "1=((((m))))", "1+2*3/4-5=6", "m=m",
        "(((m)*2)+(5m2))", "1abcd4+2"};
    private static final String SIGNS = "mz0125.()+-*/=A~";
    private static final String[] STOCK = {"cm=1/100m", "in=254/100cm", "ft=12in", "yd=3ft", "c=1k+27315/100", "f=5/9k+45967/180", "n=1000g*m/s2"};
    private static final int MOST_CALLS = 500;

    private final Checks checks;
    private UnitProver x;
    private Oracle o;
    private int calls;

    private FaultsTest(Checks checks) {
        this.checks = checks;
    }

    /** Objects anew, since what an object answers behind 512 calls is free. */
    private void begin() {
        x = Checks.stocked();
        o = new Oracle();
        for (String text : STOCK) {
            for (char c : text.toCharArray()) {
                o.feed(c);
            }
            o.define();
        }
        calls = 100;
    }

    private void ask(String text, boolean formula) {
        if (calls + text.length() > MOST_CALLS) {
            begin();
        }
        calls += text.length() + 3;
        for (int i = 0; i < text.length(); i++) {
            x.feed(text.charAt(i));
            o.feed(text.charAt(i));
        }
        if (formula) {
            checks.due("prove() of " + text, x.prove(), o.prove());
            checks.due("proof(0) of " + text, x.proof(0), o.proof(0));
        } else {
            checks.due("define() of " + text, x.define(), o.define());
            if (o.units.size() > 12) {
                x.drop();
                o.drop();
            }
        }
    }

    private void askAll(String[] texts, boolean formula) {
        for (String text : texts) {
            for (int end = 0; end <= text.length(); end++) {
                String start = text.substring(0, end);
                ask(start, formula);
                for (char c = 1; c < 128; c++) {
                    ask(start + c, formula);
                    ask(start + c + text.substring(Math.min(end + 1, text.length())), formula);
                }
                for (int i = 0; i < SIGNS.length() * SIGNS.length(); i++) {
                    ask(start + SIGNS.charAt(i % SIGNS.length()) + SIGNS.charAt(i / SIGNS.length()) + text.substring(end), formula);
                }
            }
        }
    }

    public static void main(String[] args) {
        Checks checks = new Checks("FaultsTest");
        FaultsTest test = new FaultsTest(checks);
        test.begin();
        checks.due("the Oracle's stock", Oracle.fault("x=1m+-1", Set.of("name 0"), false), 5);
        test.askAll(DEFINITIONS, false);
        test.askAll(FORMULAS, true);
        checks.close();
    }
}
