import java.io.IOException;
import java.nio.file.Files;
import java.nio.file.Path;
import java.util.regex.Matcher;
import java.util.regex.Pattern;

/** Some of the rules of LANGUAGE.md that can be seen in the source's text: its path is the argument. */
final class LanguageTest {
    private static final Checks CHECKS = new Checks();
    private static final String[] FORBIDDEN = {
        "\\bimport\\b", "\\bpackage\\b", "->", "::", "\\btry\\b", "\\bcatch\\b", "\\bfinally\\b",
        "\\bsynchronized\\b", "\\bassert\\b", "@", "\\bequals\\b", "\\bhashCode\\b", "\\btoString\\b",
        "\\bSystem\\b", "\\bThread\\b", "\\bRandom\\b", "Exact\\b", "\\bprotected\\b", "\\bvar\\b",
    };
    private static final int MOST_LINES = 60;

    public static void main(String[] args) throws IOException {
        String text = Files.readString(Path.of(args[0]));
        String code = text.replaceAll("\"[^\"\n]*\"", "\"\"").replaceAll("(?s)/\\*.*?\\*/", "").replaceAll("//[^\n]*", "");
        for (String forbidden : FORBIDDEN) {
            CHECKS.due(forbidden, Pattern.compile(forbidden).matcher(code).find(), false);
        }
        for (int at = 0; at < text.length(); at++) {
            if (text.charAt(at) > 126) {
                CHECKS.due("sign " + at, (int) text.charAt(at), "1 to 126");
            }
        }
        thrown(code);
        methodsAreShort(code);
        CHECKS.end("LanguageTest");
    }

    private static void thrown(String code) {
        Matcher matcher = Pattern.compile("\\bthrow\\b[^;]*;").matcher(code);
        while (matcher.find()) {
            String one = matcher.group();
            CHECKS.due(one, one.matches(
                "throw new (IndexOutOfBounds|IllegalArgument|IllegalState)Exception\\(\"\"\\);"), true);
        }
    }

    private static void methodsAreShort(String code) {
        int start = 0;
        String[] lines = code.split("\n");
        for (int number = 0; number < lines.length; number++) {
            boolean opens = lines[number].matches(" {4,8}[a-z].*\\(.*") && !lines[number].endsWith(";");
            if (opens) {
                start = number;
            } else if (lines[number].matches(" {4,8}\\}")) {
                CHECKS.due("short: line " + (start + 1), number - start < MOST_LINES, true);
            }
        }
    }
}
