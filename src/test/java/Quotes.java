import java.io.IOException;
import java.nio.file.DirectoryStream;
import java.nio.file.Files;
import java.nio.file.Path;
import java.util.ArrayList;
import java.util.List;
import java.util.regex.Matcher;
import java.util.regex.Pattern;

/** By hand, not by .ci/run: lists the words of DOC.md that no test says, and what tests say that is not in it. */
public final class Quotes {
    private static final Pattern SAYS = Pattern.compile("\\.says\\(\"([^\"]*)\"\\)");
    private static final int FEW = 12;

    private static String plain(String text) {
        return text.replaceAll("\\s+", " ");
    }

    private static List<String> quotes(Path tests) throws IOException {
        List<String> found = new ArrayList<>();
        try (DirectoryStream<Path> files = Files.newDirectoryStream(tests, "*Test.java")) {
            for (Path file : files) {
                Matcher m = SAYS.matcher(Files.readString(file));
                while (m.find()) {
                    found.add(plain(m.group(1)));
                }
            }
        }
        return found;
    }

    public static void main(String[] args) throws IOException {
        String doc = plain(Files.readString(Path.of("../shared/DOC.md")));
        boolean[] said = new boolean[doc.length()];
        for (String quote : quotes(Path.of("src/test/java"))) {
            int at = doc.indexOf(quote);
            if (at < 0) {
                System.out.println("not in DOC.md: " + quote);
            }
            for (; at >= 0; at = doc.indexOf(quote, at + 1)) {
                java.util.Arrays.fill(said, at, at + quote.length(), true);
            }
        }
        int start = 0;
        for (int i = 0; i <= doc.length(); i++) {
            if (i == doc.length() || said[i]) {
                if (i - start > FEW) {
                    System.out.println("unsaid: " + doc.substring(start, i).trim());
                }
                start = i + 1;
            }
        }
    }
}
