import java.io.IOException;
import java.nio.file.Files;
import java.nio.file.Path;
import java.util.HashSet;
import java.util.List;
import java.util.Set;
import java.util.regex.Matcher;
import java.util.regex.Pattern;

/** Some rules of LANGUAGE.md that can be read off the source. Runs in the project's folder. */
public final class LanguageTest {
    private static final Path SOURCE = Path.of("src/main/java/CityChords.java");
    private static final String[] FORBIDDEN = {"\\bthrow\\b", "\\bthrows\\b", "\\btry\\b", "\\bcatch\\b", "\\bassert\\b",
        "\\bsynchronized\\b", "->", "::", "static \\{", "Exact\\b", "MAX_VALUE", "MIN_VALUE", "System\\.(?!arraycopy)",
        "Math\\.(?!max|min|abs)", "Arrays\\.(?!fill)", "\\bprotected\\b", "\\bequals\\b", "hashCode", "toString"};

    public static void main(String[] args) throws IOException {
        Check c = new Check();
        String source = Files.readString(SOURCE);
        for (int k = 0; k < source.length(); k++) {
            if (source.charAt(k) > 126) {
                c.due("sign at " + k, source.charAt(k), 0);
            }
        }
        String code = source.replaceAll("(?s)/\\*.*?\\*/", "").replaceAll("//[^\n]*", "");
        for (String pattern : FORBIDDEN) {
            c.due("uses of " + pattern, count(pattern, code), 0);
        }
        c.due("imports", count("\\bimport\\b", code), count("\\bimport java\\.util\\.Arrays;", code));
        c.due("at most twelve classes", count("\\bclass\\b", code) <= 12, true);
        c.due("one public class", count("\\bpublic final class\\b", code), 1);
        c.due("statics are final", count("\\bstatic (?!final|class)\\w+(\\[\\])? \\w+ *=", code), 0);
        names(c, code);
        lengths(c, code.split("\n"));
        c.close();
    }

    private static int count(String pattern, String code) {
        Matcher matcher = Pattern.compile(pattern).matcher(code);
        int many = 0;
        while (matcher.find()) {
            many++;
        }
        return many;
    }

    private static void names(Check c, String code) {
        Set<String> publics = new HashSet<>();
        Matcher matcher = Pattern.compile("\\bpublic (?:int|boolean) (\\w+)\\(").matcher(code);
        while (matcher.find()) {
            c.due("public twice: " + matcher.group(1), publics.add(matcher.group(1)), true);
        }
        c.due("public methods", publics.size(), 30);
        matcher = Pattern.compile("\\bprivate (?:static )?[\\w\\[\\]]+ (\\w+)\\(").matcher(code);
        while (matcher.find()) {
            c.due("private too: " + matcher.group(1), publics.contains(matcher.group(1)), false);
        }
    }

    private static void lengths(Check c, String[] lines) {
        int start = 0;
        for (int k = 0; k < lines.length; k++) {
            boolean opens = List.of("    public", "    private", "        private").stream().anyMatch(lines[k]::startsWith);
            if (opens) {
                start = k;
            }
            c.due("line " + k + " in a short method", k - start <= 60, true);
        }
    }
}
