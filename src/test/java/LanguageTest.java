import java.nio.file.Files;
import java.nio.file.Path;
import java.util.List;
import java.util.regex.Matcher;
import java.util.regex.Pattern;

/** The rules of ../shared/LANGUAGE.md that a look at the lines can tell. */
public final class LanguageTest {
    private static final String[] FORBIDDEN = {"->", "::", "Exact\\(", "\\bfinally\\b", "\\bsynchronized\\b",
        "\\bassert\\b", "\\bcatch\\b", "static \\{", "\\bdouble\\b", "\\bfloat\\b", "getMessage", "hashCode",
        "toString", "Random", "System\\.(?!arraycopy)", "Thread", "\\bprotected\\b", "\\bpackage\\b"};

    public static void main(String[] args) throws Exception {
        List<String> lines = Files.readAllLines(Path.of("src/main/java/TimberValley.java"));
        int classes = 0;
        for (String line : lines) {
            String code = line.replaceAll("//.*|^\\s*/?\\*.*", "").replaceAll("\"[^\"]*\"", "\"\"");
            for (String one : FORBIDDEN) {
                Check.no(one + " in: " + line, Pattern.compile(one).matcher(code).find());
            }
            Check.yes("signs of: " + line, line.chars().allMatch(c -> c < 128));
            Check.no("import: " + line, code.startsWith("import")
                    && !code.equals("import java.util.NoSuchElementException;"));
            classes += Pattern.compile("\\b(class|record|enum|interface) \\w+").matcher(code).find() ? 1 : 0;
        }
        Check.yes("classes: " + classes, classes <= 12);
        methods(lines);
        Check.end();
    }

    private static void methods(List<String> lines) {
        Pattern head = Pattern.compile("^( {4}| {8})(?! )[\\w\\[\\] ]+ \\w+\\(([^)]*)\\)[\\w ]*\\{$|^( {4}| {8})(?! )\\w+\\(([^)]*)\\) \\{$");
        for (int i = 0; i < lines.size(); i++) {
            Matcher m = head.matcher(lines.get(i));
            if (m.find()) {
                String indent = m.group(1) == null ? m.group(3) : m.group(1);
                String given = m.group(2) == null ? m.group(4) : m.group(2);
                int end = i;
                while (!lines.get(end).equals(indent + "}")) {
                    end++;
                }
                Check.yes("length of " + lines.get(i), end - i < 60);
                Check.yes("parameters of " + lines.get(i), given.split(",").length <= 7);
            }
        }
    }
}
