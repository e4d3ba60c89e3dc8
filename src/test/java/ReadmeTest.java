import java.net.URL;
import java.net.URLClassLoader;
import java.nio.file.Files;
import java.nio.file.Path;
import java.util.ArrayList;
import java.util.List;
import java.util.regex.Matcher;
import java.util.regex.Pattern;
import javax.tools.ToolProvider;

/** The examples of README.md: compiled as they stand there, run, and each answer compared that they tell. */
public final class ReadmeTest {
    private static final Due due = new Due("ReadmeTest");
    private static final Pattern TOLD = Pattern.compile("(office\\..*\\)); *// (-?[0-9]+)(:.*)?");

    public static void main(String[] args) throws Exception {
        String readme = Files.readString(Path.of("README.md"));
        List<String> calls = new ArrayList<>();
        String example = exampleOf(readme, calls);
        List<?> answers = run(example);
        for (int i = 0; i < calls.size(); i++) {
            long[] pair = (long[]) answers.get(i);
            due.is(calls.get(i), pair[0], pair[1]);
        }
        due.isTrue("answers told: " + calls.size(), calls.size() >= 40);
        everyCallIsNamed(readme);
        due.end();
    }

    /** The lines of all java blocks as one class; the calls whose answer is told come into a list. */
    private static String exampleOf(String readme, List<String> calls) {
        StringBuilder body = new StringBuilder();
        Matcher block = Pattern.compile("(?s)```java\n(.*?)```").matcher(readme);
        while (block.find()) {
            for (String line : block.group(1).split("\n")) {
                Matcher told = TOLD.matcher(line);
                if (!told.matches()) {
                    body.append(line).append('\n');
                    continue;
                }
                calls.add(told.group(1));
                body.append("all.add(new long[] {").append(told.group(1)).append(", ").append(told.group(2)).append("L});\n");
            }
        }
        return "public class ReadmeExample {\npublic static java.util.List<long[]> run() {\n"
            + "java.util.List<long[]> all = new java.util.ArrayList<>();\n" + body + "return all;\n}\n}\n";
    }

    private static List<?> run(String example) throws Exception {
        Path folder = Files.createTempDirectory("readme");
        Path file = folder.resolve("ReadmeExample.java"), made = folder.resolve("ReadmeExample.class");
        try {
            Files.writeString(file, example);
            int code = ToolProvider.getSystemJavaCompiler().run(null, null, null,
                "-cp", System.getProperty("java.class.path"), "-d", folder.toString(), file.toString());
            due.is("the examples compile", code, 0);
            if (code != 0) due.end();
            try (URLClassLoader loader = new URLClassLoader(new URL[] {folder.toUri().toURL()})) {
                return (List<?>) loader.loadClass("ReadmeExample").getMethod("run").invoke(null);
            }
        } finally {
            for (Path p : new Path[] {file, made, folder}) Files.deleteIfExists(p);
        }
    }

    private static void everyCallIsNamed(String readme) {
        for (var method : LeagueOffice.class.getDeclaredMethods()) {
            if (java.lang.reflect.Modifier.isPublic(method.getModifiers())) {
                due.isTrue(method.getName() + " is named", readme.contains("`" + method.getName() + "`"));
            }
        }
    }
}
