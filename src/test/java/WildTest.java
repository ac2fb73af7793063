import java.lang.reflect.Method;
import java.lang.reflect.Modifier;

/** Every call with numbers far beyond all bounds: none throws, and each answers what the Oracle does. */
public final class WildTest {
    private static final int[] NUMBERS = {Integer.MIN_VALUE, Integer.MIN_VALUE + 1, -65536, -2, -1, 0, 1, 2, 3, 4, 5, 6, 11, 12, 19, 20, 29, 30, 31, 127, 128,
        256, 65536, 999999, 1000000, 1 << 30, Integer.MAX_VALUE - 1, Integer.MAX_VALUE};
    private static final String[] STOCK = {"cm=1/100m", "in=254/100cm", "ft=12in", "yd=3ft", "c=1k+27315/100", "f=5/9k+45967/180", "n=1000g*m/s2"};
    /** Short of the 512 calls after which all is free. */
    private static final int MOST_CALLS = 480;
    private static final int MOST_ROWS = 3000;

    private final Checks checks;
    private final int state;
    private UnitProver x;
    private Oracle o;
    private int calls;
    private long seed = 5;

    private WildTest(Checks checks, int state) {
        this.checks = checks;
        this.state = state;
        begin();
    }

    private void feed(String text) {
        for (char c : text.toCharArray()) {
            x.feed(c);
            o.feed(c);
            calls++;
        }
    }

    private void begin() {
        x = new UnitProver();
        o = new Oracle();
        calls = 0;
        if (state > 0) {
            fill();
        }
        if (state > 1) {
            crowd();
        }
    }

    private void fill() {
        for (String text : STOCK) {
            feed(text);
            checks.due("define() of " + text, x.define(), o.define());
        }
        feed("2ft+3in=1yd-9in");
        checks.due("prove()", x.prove(), o.prove());
        for (int i = 0; i < 3; i++) {
            checks.due("claim()", x.claim(i, i + 1, 7, 2), o.claim(i, i + 1, 7, 2));
            checks.due("track()", x.track(i, i % 2, 15 * i), o.track(i, i % 2, 15 * i));
            checks.due("hang()", x.hang(2, 2 * i, i), o.hang(2, 2 * i, i));
            checks.due("hold()", x.hold(1, 2 * i + 1, i), o.hold(1, 2 * i + 1, i));
        }
        checks.due("image()", x.image(), o.image());
        calls += 21;
    }

    /** As full as it gets: 20 UNITS, 16 CLAIMS, 60 bytes. */
    private void crowd() {
        for (int i = 12; i < 20; i++) {
            feed("z" + (char) ('a' + i) + "=1m");
            checks.due("define()", x.define(), o.define());
        }
        for (int i = 3; i < 16; i++) {
            checks.due("claim()", x.claim(i, i + 1, 3, 2), o.claim(i, i + 1, 3, 2));
        }
        feed("2ft+3in=1yd-9in+1in-1in+1in-1in+1in-1in+1in-1in+1in-1in+1in-");
        calls += 21;
    }

    private void ask(Method own, Method other, Object[] with) throws Exception {
        if (calls >= MOST_CALLS) {
            begin();
        }
        calls++;
        StringBuilder call = new StringBuilder(own.getName()).append('(');
        for (int i = 0; i < with.length; i++) {
            call.append(i > 0 ? ", " : "").append(with[i]);
        }
        long want = ((Number) other.invoke(o, with)).longValue();
        checks.due(call.append(") in state ").append(state).toString(), ((Number) own.invoke(x, with)).longValue(), want);
    }

    private Object number(Class<?> type, int i) {
        int number = NUMBERS[i];
        if (type == int.class) {
            return number;
        }
        return (long) number << (seed >>> 40 & 31) ^ seed >> 3;
    }

    private void askAll(Method own) throws Exception {
        Class<?>[] types = own.getParameterTypes();
        Method other = Oracle.class.getDeclaredMethod(own.getName(), types);
        long rows = 1;
        for (int i = 0; i < types.length; i++) {
            rows *= NUMBERS.length;
        }
        boolean all = rows <= MOST_ROWS;
        for (long row = 0; row < (all ? rows : MOST_ROWS); row++) {
            seed = seed * 6364136223846793005L + 1442695040888963407L;
            long which = all ? row : (seed >>> 20) % rows;
            Object[] with = new Object[types.length];
            for (int i = 0; i < types.length; i++) {
                with[i] = number(types[i], (int) (which % NUMBERS.length));
                which /= NUMBERS.length;
            }
            ask(own, other, with);
        }
    }

    public static void main(String[] args) throws Exception {
        Checks checks = new Checks("WildTest");
        for (int state = 0; state < 3; state++) {
            for (Method own : UnitProver.class.getDeclaredMethods()) {
                if (Modifier.isPublic(own.getModifiers())) {
                    new WildTest(checks, state).askAll(own);
                }
            }
        }
        checks.close();
    }
}
