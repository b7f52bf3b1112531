import java.io.IOException;
import java.lang.reflect.Method;
import java.lang.reflect.Modifier;
import java.nio.file.Files;
import java.nio.file.Path;
import java.util.TreeSet;
import java.util.regex.Matcher;
import java.util.regex.Pattern;
import java.util.stream.Stream;
import javax.tools.JavaCompiler;
import javax.tools.ToolProvider;

/** What README.md says: the calls of its example, the names of the tests, how they are run. */
final class ReadmeTest {
    private static final Pattern BLOCK = Pattern.compile("(?s)```java\n(.*?)```");
    private static final Pattern CALL = Pattern.compile("(war\\.(\\w+)\\(.*\\)); +// (-?\\d+): .+");
    private static final Pattern TEST_ROW = Pattern.compile("(?m)^\\| `(\\w+)` \\|");
    private static final Pattern FILE = Pattern.compile("`((?:src|\\.ci|\\.\\./shared)[^`]*)`");

    public static void main(String[] args) throws Exception {
        String readme = Files.readString(Path.of("README.md"));
        exampleAnswersAsTold(readme);
        everyTestIsNamed(readme);
        everyFileIsThere(readme);
        isTrue(".ci/run can be run", readme.contains("\n    .ci/run\n") && Files.isExecutable(Path.of(".ci/run")));
        Due.end();
    }

    private static void isTrue(String what, boolean holds) {
        Due.is("README.md: whether " + what, holds ? 1 : 0, 1);
    }

    /** All its blocks are one program; each call that stands on a line of its own tells its answer. */
    private static void exampleAnswersAsTold(String readme) throws Exception {
        StringBuilder body = new StringBuilder();
        TreeSet<String> called = new TreeSet<>();
        for (Matcher block = BLOCK.matcher(readme); block.find();) {
            for (String line : block.group(1).split("\n")) {
                Matcher call = CALL.matcher(line);
                if (call.matches()) {
                    body.append("Due.is(\"README.md: ").append(call.group(1)).append("\", ");
                    body.append(call.group(1)).append(", ").append(call.group(3)).append("L);\n");
                    called.add(call.group(2));
                } else {
                    isTrue("the answer of this call is told: " + line, !line.startsWith("war."));
                    body.append(line).append('\n');
                }
            }
        }
        isTrue("each call of the face is shown: " + called, called.equals(face()));
        compileAndRun("final class ReadmeExample { static void run() {\n" + body + "} }\n");
    }

    private static TreeSet<String> face() {
        TreeSet<String> names = new TreeSet<>();
        for (Method m : ChronicleWar.class.getDeclaredMethods()) {
            if (Modifier.isPublic(m.getModifiers())) {
                names.add(m.getName());
            }
        }
        return names;
    }

    /** In the classes' own directory, so that one loader finds the example and what it calls. */
    private static void compileAndRun(String program) throws Exception {
        Path classes = Path.of(ReadmeTest.class.getProtectionDomain().getCodeSource().getLocation().toURI());
        Path file = classes.resolve("ReadmeExample.java");
        Files.writeString(file, program);
        JavaCompiler compiler = ToolProvider.getSystemJavaCompiler();
        String dir = classes.toString();
        int failed = compiler.run(null, null, null, "--release", "17", "-proc:none", "-cp", dir, "-d", dir, file.toString());
        isTrue("its example can be compiled", failed == 0);
        if (failed == 0) {
            Method run = Class.forName("ReadmeExample").getDeclaredMethod("run");
            run.setAccessible(true);
            run.invoke(null);
        }
    }

    private static void everyTestIsNamed(String readme) throws IOException {
        TreeSet<String> named = new TreeSet<>();
        for (Matcher row = TEST_ROW.matcher(readme); row.find();) {
            named.add(row.group(1));
        }
        TreeSet<String> there = new TreeSet<>();
        try (Stream<Path> files = Files.list(Path.of("src/test/java"))) {
            files.map(file -> file.getFileName().toString()).filter(name -> name.endsWith("Test.java"))
                .forEach(name -> there.add(name.replace(".java", "")));
        }
        isTrue("the tests that it names, " + named + ", are those that there are, " + there, named.equals(there));
    }

    private static void everyFileIsThere(String readme) {
        for (Matcher file = FILE.matcher(readme); file.find();) {
            isTrue("there is " + file.group(1), Files.exists(Path.of(file.group(1))));
        }
    }
}
