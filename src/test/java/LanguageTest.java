import java.io.IOException;
import java.nio.file.Files;
import java.nio.file.Path;
import java.util.regex.Matcher;
import java.util.regex.Pattern;

/** The rules of LANGUAGE.md that the source's own words can show. Run from the project's folder. */
public final class LanguageTest {
    private static final String[] BARRED = {
        "\\b(throw|throws|try|catch|synchronized|assert|protected|package|native|volatile)\\b",
        "->", "::", "\\bstatic\\s*\\{", "\\b(System|Thread|Runtime|Object)\\b",
        "\\w+Exact\\b", "\\b(equals|hashCode|toString)\\b", "\\bnew\\s+\\w+\\s*\\([^;]*\\)\\s*\\{",
        "\\bimport\\s+(?!java\\.util\\.(Arrays|ArrayList|List|Iterator);)", "\\bvar\\b"};
    private static final int MOST_LINES = 60;

    public static void main(String[] args) throws IOException {
        String source = Files.readString(Path.of("src/main/java/MapleLines.java"));
        String code = source.replaceAll("(?s)/\\*.*?\\*/", "").replaceAll("//[^\n]*", "")
                .replaceAll("\"[^\"\n]*\"", "\"\"");
        for (String barred : BARRED) {
            Matcher found = Pattern.compile(barred).matcher(code);
            while (found.find()) {
                Check.due("barred: " + found.group(), true, false);
            }
        }
        for (int i = 0; i < source.length(); i++) {
            Check.due("a character of ASCII at " + i, source.charAt(i) < 128, true);
        }
        dueShortMethods(source);
        Check.end();
    }

    /** A method goes from a line that ends in ") {" to the first brace as far to the left. */
    private static void dueShortMethods(String source) {
        String[] lines = source.split("\n");
        for (int first = 0; first < lines.length; first++) {
            Matcher opens = Pattern.compile("^( {4}| {8})\\w[^=]*\\) \\{$").matcher(lines[first]);
            if (opens.matches()) {
                int last = first;
                while (last < lines.length && !lines[last].equals(opens.group(1) + "}")) {
                    last++;
                }
                Check.due("lines of " + lines[first].trim() + " are few",
                        last - first + 1 <= MOST_LINES, true);
            }
        }
    }
}
