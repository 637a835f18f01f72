import java.lang.reflect.Constructor;
import java.lang.reflect.Field;
import java.lang.reflect.Method;
import java.lang.reflect.Modifier;
import java.nio.file.Files;
import java.nio.file.Path;
import java.util.Set;
import java.util.TreeSet;
import java.util.regex.Matcher;
import java.util.regex.Pattern;

/** The class has the document's face and nothing else that is seen from outside. */
public final class FaceTest {
    private static final String TYPES = "(boolean|int)";

    public static void main(String[] args) throws Exception {
        Check.is("NONE", -1, TimberValley.NONE);
        Check.yes("final", Modifier.isFinal(TimberValley.class.getModifiers()));
        Set<String> due = documentsMethods();
        Set<String> seen = new TreeSet<>();
        Set<String> publicNames = new TreeSet<>();
        for (Method m : TimberValley.class.getDeclaredMethods()) {
            if (Modifier.isPublic(m.getModifiers())) {
                seen.add(describe(m));
                publicNames.add(m.getName());
            } else {
                Check.yes("private " + m, Modifier.isPrivate(m.getModifiers()));
            }
        }
        Check.is("how many methods", 56 - 1 , due.size());
        Check.yes("the face " + due + " against " + seen, due.equals(seen));
        for (Method m : TimberValley.class.getDeclaredMethods()) {
            if (!Modifier.isPublic(m.getModifiers())) {
                Check.no("a public name: " + m, publicNames.contains(m.getName()));
            }
        }
        for (Field f : TimberValley.class.getDeclaredFields()) {
            boolean hidden = Modifier.isPrivate(f.getModifiers());
            Check.yes("hidden " + f, hidden || f.getName().equals("NONE"));
        }
        for (Constructor<?> c : TimberValley.class.getDeclaredConstructors()) {
            Check.yes("constructor " + c, Modifier.isPublic(c.getModifiers()) && c.getParameterCount() == 0);
        }
        for (Class<?> c : TimberValley.class.getDeclaredClasses()) {
            Check.yes("static " + c, Modifier.isStatic(c.getModifiers()));
        }
        Check.end();
    }

    private static String describe(Method m) {
        StringBuilder s = new StringBuilder();
        s.append(m.getReturnType()).append(' ').append(m.getName());
        for (Class<?> type : m.getParameterTypes()) {
            s.append(' ').append(type);
        }
        for (Class<?> type : m.getExceptionTypes()) {
            s.append(" throws ").append(type.getSimpleName());
        }
        return s.toString();
    }

    private static Set<String> documentsMethods() throws Exception {
        String doc = Files.readString(Path.of("../shared/DOC.md"));
        Matcher m = Pattern.compile("    public " + TYPES + " (\\w+)\\(([^)]*)\\)( throws (\\w+))?;").matcher(doc);
        Set<String> all = new TreeSet<>();
        while (m.find()) {
            StringBuilder s = new StringBuilder();
            s.append(m.group(1)).append(' ').append(m.group(2));
            for (String one : m.group(3).isEmpty() ? new String[0] : m.group(3).split(", ")) {
                s.append(' ').append(one.split(" ")[0]);
            }
            if (m.group(5) != null) {
                s.append(" throws ").append(m.group(5));
            }
            all.add(s.toString());
        }
        return all;
    }
}
