import java.io.IOException;
import java.nio.file.Files;
import java.nio.file.Path;
import java.util.ArrayList;
import java.util.HashSet;
import java.util.List;
import java.util.Set;
import java.util.regex.Matcher;
import java.util.regex.Pattern;

/** What of LANGUAGE.md can be seen in the source by plain looking. Run from the project's root. */
public final class LanguageTest {
    private static final Path SOURCE = Path.of("src/main/java/NoonTrains.java");
    private static final String[] RULED_OUT = {
        "\\b(throw|throws|try|catch|finally|synchronized|assert|native|volatile|transient|var)\\b", "->", "::",
        "\\w+Exact\\b", "\\bpackage\\b", "\\bstatic\\s*\\{", "\\bprotected\\b", "\\bSystem\\.(?!arraycopy\\b)",
        "\\b(Thread|Random|Object|Class|Runtime|Process|Scanner|File|Map|HashMap|Set|HashSet|Stream|Optional)\\b",
        "\\.(equals|hashCode|toString|getClass)\\(", "\\bnew\\s+\\w+\\s*\\([^;{]*\\)\\s*\\{", "\\[\\]\\[\\]\\["};
    private static final Set<String> LIBRARY = Set.of("import java.util.Arrays;", "import java.util.ArrayList;",
            "import java.util.List;", "import java.util.Iterator;");
    private static final Pattern METHOD = Pattern.compile(
            "^ +(public |private )?(static )?[\\w\\[\\]]+ (\\w+)\\(([^)]*)\\) \\{$");

    public static void main(String[] args) throws IOException {
        Check check = new Check("LanguageTest");
        List<String> lines = new ArrayList<>();
        for (String line : Files.readAllLines(SOURCE)) {
            lines.add(line.replaceAll("\"[^\"]*\"", "\"\"").replaceAll("//.*", "").replaceAll("/?\\*.*", isComment(line) ? "" : "$0"));
        }
        for (String pattern : RULED_OUT) {
            Pattern compiled = Pattern.compile(pattern);
            for (int i = 0; i < lines.size(); i++) {
                check.holds("line " + (i + 1) + " without " + pattern, !compiled.matcher(lines.get(i)).find());
            }
        }
        imports(check, lines);
        methods(check, lines);
        check.end();
    }

    private static boolean isComment(String line) {
        return line.trim().startsWith("*") || line.trim().startsWith("/*");
    }

    private static void imports(Check check, List<String> lines) {
        int classes = 0;
        for (String line : lines) {
            if (line.startsWith("import")) {
                check.holds(line + " is of the library", LIBRARY.contains(line.trim()));
            }
            if (line.matches(".*\\b(class|interface|enum|record) \\w+.*\\{")) {
                classes++;
                boolean inside = line.startsWith("    ");
                check.holds(line + " is static or the face", !inside || line.contains("private static "));
            }
        }
        check.holds("at most twelve classes: " + classes, classes <= 12);
    }

    private static void methods(Check check, List<String> lines) {
        Set<String> open = new HashSet<>();
        Set<String> others = new HashSet<>();
        for (int i = 0; i < lines.size(); i++) {
            Matcher method = METHOD.matcher(lines.get(i));
            if (!method.find() || method.group(3).equals("if") || lines.get(i).contains(" new ")) {
                continue;
            }
            String name = method.group(3);
            ("public ".equals(method.group(1)) ? open : others).add(name);
            check.holds(name + " takes at most seven", method.group(4).split(",").length <= 7);
            String end = lines.get(i).replaceAll("\\S.*", "") + "}";
            int last = i;
            while (last < lines.size() && !lines.get(last).equals(end)) {
                last++;
            }
            check.holds(name + " is short: " + (last - i), last - i <= 60);
        }
        check.holds("the face is seen", open.size() == 27);
        others.retainAll(open);
        check.holds("no other method bears a public one's name: " + others, others.isEmpty());
    }
}
