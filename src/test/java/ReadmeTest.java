import java.io.File;
import java.io.IOException;
import java.lang.reflect.Method;
import java.nio.file.Files;
import java.nio.file.Path;
import java.util.regex.Matcher;
import java.util.regex.Pattern;

/** README.md names every call of the face, and its example compiles and prints what stands there. */
public final class ReadmeTest {
    public static void main(String[] args) throws IOException, InterruptedException {
        String readme = Files.readString(Path.of("README.md"));
        for (Method call : TimberValley.class.getDeclaredMethods()) {
            if (java.lang.reflect.Modifier.isPublic(call.getModifiers())) {
                Check.yes("README.md names " + call.getName(), readme.contains("`" + call.getName() + "`"));
            }
        }
        Check.yes("how tests are run", readme.contains("bash .ci/run"));
        String due = block(readme, "text");
        String got = printed(block(readme, "java"));
        if (!due.equals(got)) {
            System.out.println("the example prints:\n" + got);
        }
        Check.yes("the example's answers", due.equals(got));
        Check.end();
    }

    private static String block(String readme, String kind) {
        Matcher m = Pattern.compile("(?s)\n```" + kind + "\n(.*?)```\n").matcher(readme);
        return m.find() ? m.group(1) : "";
    }

    private static String printed(String example) throws IOException, InterruptedException {
        Path folder = Files.createTempDirectory("readme");
        Path source = folder.resolve("Example.java");
        try {
            Files.writeString(source, example);
            String java = System.getProperty("java.home") + File.separator + "bin" + File.separator + "java";
            Process run = new ProcessBuilder(java, "-cp", System.getProperty("java.class.path"), source.toString())
                    .redirectErrorStream(true).start();
            String all = new String(run.getInputStream().readAllBytes());
            Check.is("the example's exit code", 0, run.waitFor());
            return all;
        } finally {
            Files.deleteIfExists(source);
            Files.delete(folder);
        }
    }
}
