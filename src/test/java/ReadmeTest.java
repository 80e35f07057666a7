import java.io.IOException;
import java.lang.reflect.Field;
import java.lang.reflect.Method;
import java.lang.reflect.Modifier;
import java.net.URL;
import java.net.URLClassLoader;
import java.nio.file.Files;
import java.nio.file.Path;
import java.util.Set;
import java.util.TreeSet;
import java.util.regex.Matcher;
import java.util.regex.Pattern;
import java.util.stream.Stream;
import javax.tools.ToolProvider;

/** README.md is true: its examples answer what stands behind them, and it names all that there is. */
public final class ReadmeTest {
    private static final Pattern BLOCK = Pattern.compile("(?s)```java\n(.*?)```");
    private static final Pattern ASKED = Pattern.compile("(x\\.\\w+\\(.*\\));\\s+// (-?\\d+)(: .*)?");
    private static final Pattern CONSTANT = Pattern.compile("`([A-Z]+)` \\((-?\\d+)\\)");
    private static final Pattern CALL = Pattern.compile("`(\\w+)\\(((?:\\w+(?:, )?)*)\\)`");
    private static final Pattern FILE = Pattern.compile("`([A-Z][a-z]\\w*)`");

    private static final Checks CHECKS = new Checks();

    public static void main(String[] args) throws Exception {
        String page = Files.readString(Path.of("README.md"));
        examples(page);
        constants(page);
        calls(page);
        tests(page);
        CHECKS.end("ReadmeTest");
    }

    /** Called by the examples. */
    public static void due(String call, long want, long got) {
        CHECKS.due(call, want, got);
    }

    /** The blocks are one program, from the first to the last. */
    private static void examples(String page) throws Exception {
        StringBuilder body = new StringBuilder();
        int asked = 0;
        Matcher block = BLOCK.matcher(page);
        while (block.find()) {
            for (String line : block.group(1).split("\n")) {
                Matcher m = ASKED.matcher(line.strip());
                if (m.matches()) {
                    asked++;
                    body.append("ReadmeTest.due(\"README: ").append(m.group(1)).append("\", ")
                            .append(m.group(2)).append("L, ").append(m.group(1)).append(");\n");
                } else {
                    CHECKS.holds("a call with its answer: " + line, !line.strip().startsWith("x."));
                    body.append(line).append('\n');
                }
            }
        }
        CHECKS.holds("README has examples", asked > 10);
        run("public final class ReadmeUse {\npublic static void use() {\n" + body + "}\n}\n");
    }

    private static void run(String source) throws Exception {
        Path dir = Files.createTempDirectory(Files.createDirectories(Path.of("build")), "readme");
        Path file = dir.resolve("ReadmeUse.java");
        Files.writeString(file, source);
        int refused = ToolProvider.getSystemJavaCompiler().run(null, null, null,
                "-cp", System.getProperty("java.class.path"), "-d", dir.toString(), file.toString());
        CHECKS.due("compiling README's examples", 0, refused);
        if (refused == 0) {
            try (URLClassLoader loader = new URLClassLoader(new URL[] {dir.toUri().toURL()})) {
                loader.loadClass("ReadmeUse").getMethod("use").invoke(null);
            }
        }
        Files.deleteIfExists(dir.resolve("ReadmeUse.class"));
        Files.delete(file);
        Files.delete(dir);
    }

    private static void constants(String page) throws IllegalAccessException {
        Set<String> told = new TreeSet<>();
        Matcher m = CONSTANT.matcher(page);
        while (m.find()) {
            told.add(m.group(1) + " " + m.group(2));
        }
        Set<String> there = new TreeSet<>();
        for (Field f : NosePost.class.getFields()) {
            there.add(f.getName() + " " + f.get(null));
        }
        CHECKS.same("README's constants", there.toString(), told.toString());
    }

    /** Each call by its name and how many arguments it takes. */
    private static void calls(String page) {
        Set<String> told = new TreeSet<>();
        Matcher m = CALL.matcher(page);
        while (m.find()) {
            told.add(m.group(1) + " " + (m.group(2).isEmpty() ? 0 : m.group(2).split(", ").length));
        }
        Set<String> there = new TreeSet<>();
        for (Method call : NosePost.class.getDeclaredMethods()) {
            if (Modifier.isPublic(call.getModifiers())) {
                there.add(call.getName() + " " + call.getParameterCount());
            }
        }
        CHECKS.same("README's calls", there.toString(), told.toString());
    }

    private static void tests(String page) throws IOException {
        CHECKS.holds("README says how to run the tests", page.contains("\n    bash .ci/run\n"));
        CHECKS.holds(".ci/run can be run", Files.isExecutable(Path.of(".ci/run")));
        Set<String> told = new TreeSet<>();
        Matcher m = FILE.matcher(page);
        while (m.find()) {
            told.add(m.group(1));
        }
        Set<String> there = new TreeSet<>();
        try (Stream<Path> files = Files.list(Path.of("src/test/java"))) {
            files.forEach(file -> there.add(file.getFileName().toString().replace(".java", "")));
        }
        CHECKS.same("README's tests and what they are written with", there.toString(), told.toString());
    }
}
