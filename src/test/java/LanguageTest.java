import java.nio.charset.StandardCharsets;
import java.nio.file.Files;
import java.nio.file.Path;
import java.util.List;
import java.util.regex.Matcher;
import java.util.regex.Pattern;

/** What can be seen of ../shared/LANGUAGE.md in the source's text: words it has not, and how long methods are. */
final class LanguageTest {
    private static final Path SOURCE = Path.of("src/main/java/MovedFold.java");
    private static final String[] BARRED = {
        "\\bthrow\\b", "\\btry\\b", "\\bcatch\\b", "\\bsynchronized\\b", "\\bassert\\b", "\\bpackage\\b", "->", "::",
        "static\\s*\\{", "\\bprotected\\b", "Exact\\(", "\\bnew\\s+\\w+\\s*\\(\\s*\\)\\s*\\{", "\\bhashCode\\b",
        "\\bSystem\\.(?!arraycopy)", "\\bRandom\\b", "\\bThread\\b",
        "\\bvar\\b", "\\bvolatile\\b", "\\bnative\\b"};
    private static final String[] FACE = {
        "write", "erase", "fault", "field", "square", "hedge", "night", "sides", "edges", "yards", "fold", "clear", "judge",
        "why", "moved", "few", "two", "fewest", "best", "courses", "round", "broken", "goes", "count"};
    private static final int LONGEST_METHOD = 60, MOST_CLASSES = 12, MOST_PARAMETERS = 7;

    public static void main(String[] args) throws Exception {
        String source = Files.readString(SOURCE, StandardCharsets.ISO_8859_1);
        for (int i = 0; i < source.length(); i++) {
            if (source.charAt(i) > 126) {
                Check.due("a sign above 126 at " + i, source.charAt(i), 126);
            }
        }
        String code = source.replaceAll("(?s)/\\*.*?\\*/", "").replaceAll("//[^\n]*", "").replaceAll("\"[^\"\n]*\"", "\"\"");
        for (String barred : BARRED) {
            Check.due("uses of " + barred, uses(code, barred), 0);
        }
        for (String name : FACE) {
            String declared = "(?:int|long|boolean|void|String)\\s+" + name + "\\s*\\(";
            Check.due("methods called " + name, uses(code, declared), 1);
        }
        Check.due("imports", uses(code, "\\bimport\\b"), uses(code, "\\bimport java\\.util\\.Arrays;"));
        Check.due("too many classes", uses(code, "\\bclass\\s+\\w+") > MOST_CLASSES ? 1 : 0, 0);
        methods(source);
        Check.end();
    }

    private static int uses(String code, String pattern) {
        Matcher matcher = Pattern.compile(pattern).matcher(code);
        int uses = 0;
        while (matcher.find()) {
            uses++;
        }
        return uses;
    }

    /** A method begins at a line that ends in ") {" and ends at the brace below its first letter. */
    private static void methods(String source) {
        List<String> lines = source.lines().toList();
        Pattern head = Pattern.compile("^( {4}| {8})(?:[a-zA-Z]\\w*(?:\\[\\])*\\s+)*\\w+\\(([^)]*)\\) \\{$");
        for (int i = 0; i < lines.size(); i++) {
            Matcher matcher = head.matcher(lines.get(i));
            if (matcher.matches()) {
                int end = i;
                while (end < lines.size() && !lines.get(end).equals(matcher.group(1) + "}")) {
                    end++;
                }
                Check.due("too long: " + lines.get(i).trim(), end - i > LONGEST_METHOD ? 1 : 0, 0);
                int parameters = matcher.group(2).split(",").length;
                Check.due("too many parameters: " + lines.get(i).trim(), parameters > MOST_PARAMETERS ? 1 : 0, 0);
            }
        }
    }
}
