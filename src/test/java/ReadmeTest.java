import java.io.IOException;
import java.lang.reflect.Method;
import java.lang.reflect.Modifier;
import java.nio.file.Files;
import java.nio.file.Path;
import java.util.regex.Matcher;
import java.util.regex.Pattern;
import javax.tools.ToolProvider;

/** README.md's example, each answer held against the one told behind it; and that no call is left out there. */
public final class ReadmeTest extends Bench {
    private static final Pattern ANSWERED = Pattern.compile("(nurse\\.\\w+\\(.*\\));\\s*// (-?\\d+): .*");

    private static String exampleOf(String readme) {
        Matcher block = Pattern.compile("(?s)```java\n(.*?)```").matcher(readme);
        return block.find() ? block.group(1) : "";
    }

    /** The example as a class; a call with an answer behind it becomes a question. */
    private static String classOf(String example) {
        StringBuilder text = new StringBuilder("public final class Example extends Bench { public static void run() {\n");
        int asked = 0;
        for (String line : example.split("\n")) {
            Matcher call = ANSWERED.matcher(line);
            if (call.matches()) {
                text.append("due(\"").append(call.group(1)).append("\", ").append(call.group(1)).append(", ")
                    .append(call.group(2)).append(");\n");
                asked++;
            } else {
                text.append(line).append('\n');
            }
        }
        due("answers are told", asked > 20 ? 1 : 0, 1);
        return text.append("} }\n").toString();
    }

    private static void runExample(String example) throws Exception {
        // Beside the classes of this test, so that the example may use what Bench keeps to itself.
        Path out = Path.of(ReadmeTest.class.getProtectionDomain().getCodeSource().getLocation().toURI());
        Path source = Files.createDirectories(out.resolve("example")).resolve("Example.java");
        Files.writeString(source, classOf(example));
        int code = ToolProvider.getSystemJavaCompiler().run(null, null, null, "-cp", out.toString(), "-d", out.toString(),
            source.toString());
        due("javac", code, 0);
        if (code == 0) {
            Class.forName("Example").getMethod("run").invoke(null);
        }
    }

    private static void callsAreNamed(String readme) {
        sentence("what for, calls");
        for (Method method : UnderNurseToTheTemper.class.getDeclaredMethods()) {
            if (Modifier.isPublic(method.getModifiers())) {
                due(method.getName(), readme.contains("`" + method.getName() + "`") ? 1 : 0, 1);
            }
        }
    }

    private static void testsAreNamed(String readme) throws IOException {
        sentence("Tests");
        try (var files = Files.list(Path.of("src/test/java"))) {
            for (Path file : (Iterable<Path>) files::iterator) {
                String name = file.getFileName().toString().replace(".java", "");
                due(name, readme.contains("`" + name + "`") ? 1 : 0, 1);
            }
        }
    }

    public static void main(String[] args) throws Exception {
        String readme = Files.readString(Path.of("README.md"));
        sentence("Use");
        runExample(exampleOf(readme));
        callsAreNamed(readme);
        testsAreNamed(readme);
        finish("README.md");
    }
}
