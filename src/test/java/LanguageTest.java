import java.lang.reflect.Field;
import java.lang.reflect.Method;
import java.lang.reflect.Modifier;
import java.nio.file.Files;
import java.nio.file.Path;
import java.util.ArrayList;
import java.util.List;
import java.util.Set;
import java.util.TreeSet;
import java.util.regex.Matcher;
import java.util.regex.Pattern;

/** The rules of ../shared/LANGUAGE.md that a look at the lines can tell. */
public final class LanguageTest {
    private static final String[] FORBIDDEN = {"->", "::", "Exact\\(", "\\bfinally\\b", "\\bsynchronized\\b",
        "\\bassert\\b", "\\bcatch\\b", "static \\{", "\\bdouble\\b", "\\bfloat\\b", "getMessage", "hashCode",
        "toString", "Random", "System\\.(?!arraycopy)", "Thread", "\\bprotected\\b", "\\bpackage\\b"};

    public static void main(String[] args) throws Exception {
        List<String> lines = Files.readAllLines(Path.of("src/main/java/TimberValley.java"));
        int classes = 0;
        for (String line : lines) {
            String code = line.replaceAll("//.*|^\\s*/?\\*.*", "").replaceAll("\"[^\"]*\"", "\"\"");
            for (String one : FORBIDDEN) {
                Check.no(one + " in: " + line, Pattern.compile(one).matcher(code).find());
            }
            Check.no("a loop without a bound: " + line, Pattern.compile("\\bwhile \\([^<]*$|\\bfor \\(;;").matcher(code).find());
            Check.yes("signs of: " + line, line.chars().allMatch(c -> c < 128));
            Check.no("import: " + line, code.startsWith("import")
                    && !code.equals("import java.util.NoSuchElementException;"));
            classes += Pattern.compile("\\b(class|record|enum|interface) \\w+").matcher(code).find() ? 1 : 0;
        }
        Check.yes("classes: " + classes, classes <= 12);
        methods(lines);
        members();
        Check.end();
    }

    /** Rule 1: no other method bears a public one's name; rule 11: some twenty fields a class. */
    private static void members() {
        Set<String> face = new TreeSet<>();
        for (Method m : TimberValley.class.getDeclaredMethods()) {
            if (Modifier.isPublic(m.getModifiers())) {
                face.add(m.getName());
            }
        }
        List<Class<?>> all = new ArrayList<>(List.of(TimberValley.class.getDeclaredClasses()));
        all.add(TimberValley.class);
        for (Class<?> one : all) {
            for (Method m : one.getDeclaredMethods()) {
                Check.no("a public name: " + m, !Modifier.isPublic(m.getModifiers()) && face.contains(m.getName()));
            }
            int fields = 0;
            for (Field f : one.getDeclaredFields()) {
                fields += Modifier.isStatic(f.getModifiers()) ? 0 : 1;
                Check.yes("static and not final: " + f,
                        !Modifier.isStatic(f.getModifiers()) || Modifier.isFinal(f.getModifiers()));
            }
            Check.yes("fields of " + one + ": " + fields, fields <= 20);
        }
    }

    private static void methods(List<String> lines) {
        Pattern head = Pattern.compile("^( {4}| {8})(?! )[\\w\\[\\] ]+ \\w+\\(([^)]*)\\)[\\w ]*\\{$|^( {4}| {8})(?! )\\w+\\(([^)]*)\\) \\{$");
        for (int i = 0; i < lines.size(); i++) {
            Matcher m = head.matcher(lines.get(i));
            if (m.find()) {
                String indent = m.group(1) == null ? m.group(3) : m.group(1);
                String given = m.group(2) == null ? m.group(4) : m.group(2);
                int end = i;
                while (!lines.get(end).equals(indent + "}")) {
                    end++;
                }
                Check.yes("length of " + lines.get(i), end - i < 60);
                Check.yes("parameters of " + lines.get(i), given.split(",").length <= 7);
            }
        }
    }
}
