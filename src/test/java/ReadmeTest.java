import java.io.IOException;
import java.lang.reflect.Method;
import java.lang.reflect.Modifier;
import java.net.URL;
import java.net.URLClassLoader;
import java.nio.file.DirectoryStream;
import java.nio.file.Files;
import java.nio.file.Path;
import java.util.List;
import java.util.function.Supplier;
import java.util.regex.Matcher;
import java.util.regex.Pattern;
import javax.tools.ToolProvider;

/** README.md: its examples answer what it says, and it names every call of the face and every test. */
public final class ReadmeTest {
    private static final Check check = new Check();
    private static final Path OUT = Path.of("build/readme");
    private static final Pattern BLOCK = Pattern.compile("(?ms)^```java\n(.*?)^```$");
    private static final Pattern ASKED = Pattern.compile("\\s*(.*);\\s*// (gives|throws) (.*)");

    private static final String HEAD = """
            import java.util.ArrayList;
            import java.util.List;
            import java.util.concurrent.Callable;
            import java.util.function.Supplier;

            public final class Example implements Supplier<List<String>> {
                private final List<String> rows = new ArrayList<>();

                private void ask(String call, String due, Callable<Object> answer) {
                    rows.add(call);
                    rows.add(due);
                    try {
                        rows.add(String.valueOf(answer.call()));
                    } catch (Exception e) {
                        rows.add("throws " + e.getClass().getSimpleName());
                    }
                }

                public List<String> get() {
            """;

    private static final String TAIL = """
                    return rows;
                }
            }
            """;

    private static int asked = 0;

    public static void main(String[] args) throws Exception {
        String readme = Files.readString(Path.of("README.md"));
        calls(readme);
        tests(readme);
        examples(readme);
        check.end();
    }

    private static void calls(String readme) {
        check.about("README.md, the calls");
        for (Method method : TaskLeveller.class.getDeclaredMethods()) {
            if (Modifier.isPublic(method.getModifiers())) {
                named(readme, method.getName());
            }
        }
    }

    private static void tests(String readme) throws IOException {
        check.about("README.md, the tests");
        check.equal("whether the script it names is there", true, Files.isExecutable(Path.of(".ci/run")));
        named(readme, ".ci/run");
        try (DirectoryStream<Path> files = Files.newDirectoryStream(Path.of("src/test/java"), "*Test.java")) {
            for (Path file : files) {
                named(readme, file.getFileName().toString().replace(".java", ""));
            }
        }
    }

    private static void named(String readme, String name) {
        check.equal("whether it names " + name, true, readme.contains("`" + name + "`"));
    }

    /** All examples are one program, because the later ones go on with the first one's plan. */
    private static void examples(String readme) throws Exception {
        check.about("README.md, the examples");
        StringBuilder body = new StringBuilder();
        Matcher blocks = BLOCK.matcher(readme);
        while (blocks.find()) {
            blocks.group(1).lines().forEach(line -> body.append(program(line)).append('\n'));
        }
        Files.createDirectories(OUT);
        Path source = Files.writeString(OUT.resolve("Example.java"), HEAD + body + TAIL);
        int refused = ToolProvider.getSystemJavaCompiler().run(null, null, null, "-d", OUT.toString(),
                "-cp", System.getProperty("java.class.path"), source.toString());
        check.equal("what javac answers", 0, refused);
        if (refused == 0) {
            compare();
        }
    }

    /** Takes a line as it stands, or asks for its answer where the line tells one. */
    private static String program(String line) {
        Matcher told = ASKED.matcher(line);
        if (!told.matches()) {
            return line;
        }
        asked++;
        String due = told.group(2).equals("throws") ? "throws " + told.group(3) : told.group(3);
        return "ask(\"" + told.group(1).replace("\"", "\\\"") + "\", \"" + due + "\", () -> " + told.group(1) + ");";
    }

    private static void compare() throws Exception {
        try (URLClassLoader loader = new URLClassLoader(new URL[] {OUT.toUri().toURL()})) {
            Supplier<?> example = (Supplier<?>) loader.loadClass("Example").getDeclaredConstructor().newInstance();
            List<?> rows = (List<?>) example.get();
            check.equal("how many answers it tells", 3 * asked, rows.size());
            for (int row = 0; row + 2 < rows.size(); row += 3) {
                check.equal(String.valueOf(rows.get(row)), rows.get(row + 1), rows.get(row + 2));
            }
        }
    }
}
