import java.nio.file.Files;
import java.nio.file.Path;
import java.util.regex.Matcher;
import java.util.regex.Pattern;

/** What of the language's rules can be seen in the source's words. */
public final class SourceTest {
    private static final String[] FORBIDDEN = {"\\btry\\b", "\\bcatch\\b", "\\bthrow\\b", "\\bfinally\\b", "\\bsynchronized\\b",
        "\\bassert\\b", "\\bimport\\b", "\\bpackage\\b", "->", "::", "\\bvar\\b", "\\bObject\\b", "\\bDouble\\b", "\\bFloat\\b",
        "Exact\\b", "\\bhashCode\\b", "\\btoString\\b", "\\binstanceof\\b", "\\bnull\\s*\\)\\s*\\{\\s*\\}", "\\bstatic\\s*\\{"};
    private static final String[] LIBRARY = {"Math.floorDiv", "Math.abs", "Math.min", "Long.compare", "System.arraycopy"};
    /** The face's own words: of Long and Integer the rules list functions alone. */
    private static final String NO = "public static final long NO = Long.MIN_VALUE;";
    private static final int MOST_LINES = 60;
    private static final int MOST_CLASSES = 12;
    private static final int MOST_FIELDS = 20;

    private static String withoutComments(String text) {
        return text.replaceAll("(?s)/\\*.*?\\*/", "").replaceAll("//[^\n]*", "");
    }

    private static int occurrences(String pattern, String text) {
        int many = 0;
        Matcher m = Pattern.compile(pattern).matcher(text);
        while (m.find()) {
            many++;
        }
        return many;
    }

    private static void methods(Checks c, String code) {
        String name = "";
        int lines = 0;
        for (String line : code.split("\n")) {
            if (line.matches(" {4,8}[a-zA-Z].*\\(.*\\) \\{")) {
                name = line.trim();
                lines = 0;
                c.due("parameters of " + name, occurrences("\\w+ \\w+[,)]", name) <= 7 ? 1 : 0, 1);
            }
            lines++;
            if (line.matches(" {4,8}\\}") && !name.isEmpty()) {
                c.due("lines of " + name, lines <= MOST_LINES ? 1 : 0, 1);
                name = "";
            }
        }
    }

    public static void main(String[] args) throws Exception {
        Checks c = new Checks("SourceTest");
        String text = Files.readString(Path.of("src/main/java/UnitProver.java"));
        String code = withoutComments(text);
        for (String pattern : FORBIDDEN) {
            c.due(pattern, occurrences(pattern, code), 0);
        }
        c.due("NO as the document has it", occurrences(Pattern.quote(NO), code), 1);
        String rest = code.replace(NO, "");
        for (String known : LIBRARY) {
            rest = rest.replace(known, "");
        }
        c.due("other library", occurrences("\\b(Math|Long|Integer|System|Arrays|List|ArrayList|Byte|Short|Character)\\b", rest), 0);
        c.due("signs beyond 127", occurrences("[^\\x00-\\x7f]", text), 0);
        c.due("classes", occurrences("\\bclass \\w+", code) <= MOST_CLASSES ? 1 : 0, 1);
        c.due("new in a method", occurrences("\\n {8,}return new ", code), 0);
        methods(c, code);
        for (Class<?> inner : UnitProver.class.getDeclaredClasses()) {
            int fields = 0;
            for (java.lang.reflect.Field f : inner.getDeclaredFields()) {
                fields += java.lang.reflect.Modifier.isStatic(f.getModifiers()) ? 0 : 1;
            }
            c.due("fields of " + inner.getName(), fields <= MOST_FIELDS ? 1 : 0, 1);
        }
        c.close();
    }
}
