import java.lang.reflect.Constructor;
import java.lang.reflect.Field;
import java.lang.reflect.Method;
import java.lang.reflect.Modifier;
import java.util.Set;
import java.util.TreeSet;

/** The public face: the document's constants, constructor and methods, and nothing else that is not private. */
public final class FaceTest {
    private static final String[] METHODS = {"int feed(int)", "int define()", "int drop()", "int find()", "int name(int,int)",
        "int power(int,int)", "long scale(int,int,int)", "long ratio(int,int,int)", "int nearest(int,int,int)", "int prove()",
        "int proof(int)", "int step(int,int)", "long value(int,int)", "int same(int,int)", "long in(int,int,int)",
        "long bits(int,int,int)", "long parted(int,int,int,int,int)", "int claim(int,int,int,int)", "int unclaim(int)",
        "int claimOf(int,int)", "int rings(int)", "long by(int,int,int)", "int track(int,int,int)", "int put(int,int,int)",
        "int putBits(int,int,long)", "long item(int,int)", "int change(int,int,int)", "long added(int)", "long cast(int,int,int)",
        "int twin(int,int)", "int hang(int,int,int)", "int hold(int,int,int)", "int rack(int,int,int)", "int shift(int,int)",
        "int image()", "int undo()", "int count(int)"};
    private static final String[] CONSTANTS = {"NONE", "BAD", "STATE", "FULL", "NOT", "NOTHING", "BEYOND", "UNKNOWN", "NOUGHT",
        "SHIFTED", "TWICE", "WIDE", "UNLIKE", "ORDER", "OVER", "KIND"};

    private static String written(Method m) {
        StringBuilder text = new StringBuilder(m.getReturnType().getName()).append(' ').append(m.getName()).append('(');
        for (Class<?> type : m.getParameterTypes()) {
            text.append(text.charAt(text.length() - 1) == '(' ? "" : ",").append(type.getName());
        }
        return text.append(')').toString();
    }

    public static void main(String[] args) throws Exception {
        Checks c = new Checks("FaceTest");
        Set<String> open = new TreeSet<>();
        Set<String> openNames = new TreeSet<>();
        for (Method m : UnitProver.class.getDeclaredMethods()) {
            if (!Modifier.isPrivate(m.getModifiers()) && !m.isSynthetic()) {
                open.add(written(m));
                openNames.add(m.getName());
                c.due(written(m) + " is public and no more", m.getModifiers(), Modifier.PUBLIC);
            }
        }
        c.due("the methods are the document's", open.equals(new TreeSet<>(Set.of(METHODS))) ? 1 : 0, 1);
        for (Method m : UnitProver.class.getDeclaredMethods()) {
            if (Modifier.isPrivate(m.getModifiers())) {
                c.due("private " + m.getName() + " bears a public name", openNames.contains(m.getName()) ? 1 : 0, 0);
            }
        }
        int constants = 0;
        for (Field f : UnitProver.class.getDeclaredFields()) {
            if (!Modifier.isPrivate(f.getModifiers())) {
                constants++;
                c.due(f.getName() + " is a constant", f.getModifiers(), Modifier.PUBLIC | Modifier.STATIC | Modifier.FINAL);
            }
        }
        c.due("how many constants", constants, CONSTANTS.length + 1);
        for (int i = 0; i < CONSTANTS.length; i++) {
            c.due(CONSTANTS[i], UnitProver.class.getDeclaredField(CONSTANTS[i]).getInt(null), -1 - i);
        }
        c.due("NO", UnitProver.NO, Long.MIN_VALUE);
        c.due("constructors", UnitProver.class.getDeclaredConstructors().length, 1);
        Constructor<UnitProver> constructor = UnitProver.class.getConstructor();
        c.due("UnitProver() has Five UNITS", constructor.newInstance().count(0), 5);
        c.due("the class is public and final", UnitProver.class.getModifiers(), Modifier.PUBLIC | Modifier.FINAL);
        for (Class<?> inner : UnitProver.class.getDeclaredClasses()) {
            c.due(inner.getName() + " is private and static", inner.getModifiers() & (Modifier.PRIVATE | Modifier.STATIC),
                    Modifier.PRIVATE | Modifier.STATIC);
        }
        c.close();
    }
}
