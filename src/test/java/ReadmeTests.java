import java.io.IOException;
import java.lang.reflect.Method;
import java.lang.reflect.Modifier;
import java.nio.file.Files;
import java.nio.file.Path;
import java.util.List;
import java.util.regex.Matcher;
import java.util.regex.Pattern;
import java.util.stream.Stream;
import javax.tools.ToolProvider;

/** The Java lines of README.md, compiled and run one behind the other: each answers what its comment begins with. */
final class ReadmeTests {
    private static final Pattern BLOCK = Pattern.compile("```java\n(.*?)```", Pattern.DOTALL);
    private static final Pattern CALL = Pattern.compile("(x\\.\\w+\\(.*\\)); +// (true|false|-?\\d+)\\b.*");

    private ReadmeTests() {
    }

    public static void main(String[] args) throws Exception {
        String readme = Files.readString(Path.of("README.md"));
        Path folder = Files.createTempDirectory("readme");
        try {
            run(program(readme), folder);
        } finally {
            remove(folder);
        }
        for (Method call : BelowThread.class.getDeclaredMethods()) {
            boolean told = !Modifier.isPublic(call.getModifiers()) || readme.contains(call.getName() + "(");
            Checks.due("README.md tells of " + call.getName(), told, true);
        }
        Checks.end("ReadmeTests");
    }

    /** A class of all blocks: one that begins with "static" is a method, the others are what is run. */
    private static String program(String readme) {
        StringBuilder methods = new StringBuilder();
        StringBuilder lines = new StringBuilder();
        int calls = 0;
        Matcher blocks = BLOCK.matcher(readme);
        while (blocks.find()) {
            if (blocks.group(1).startsWith("static ")) {
                methods.append(blocks.group(1));
                continue;
            }
            for (String line : blocks.group(1).split("\n")) {
                Matcher call = CALL.matcher(line);
                boolean asks = call.matches();
                Checks.due("an answer behind " + line, asks || !line.startsWith("x."), true);
                calls += asks ? 1 : 0;
                lines.append(asks ? due(call.group(1), call.group(2)) : line).append('\n');
            }
        }
        Checks.due("calls in README.md: " + calls, calls > 30, true);
        return "final class ReadmeLines {\n" + methods + "public static void main(String[] args) {\n" + lines
            + "Checks.end(\"README.md\");\n}\n}\n";
    }

    private static String due(String call, String answer) {
        return "Checks.due(\"README.md: " + call.replace("\"", "'") + "\", " + call + ", " + answer + ");";
    }

    private static void run(String program, Path folder) throws Exception {
        Path file = folder.resolve("ReadmeLines.java");
        Files.writeString(file, program);
        Path here = Path.of(ReadmeTests.class.getProtectionDomain().getCodeSource().getLocation().toURI());
        int failed = ToolProvider.getSystemJavaCompiler().run(null, null, null, "-cp", here.toString(), "-d", folder.toString(),
            file.toString());
        Checks.due("the lines of README.md don't compile", failed, 0);
        if (failed == 0) {
            Path java = Path.of(System.getProperty("java.home"), "bin", "java");
            String path = folder + System.getProperty("path.separator") + here;
            Process lines = new ProcessBuilder(java.toString(), "-cp", path, "ReadmeLines").inheritIO().start();
            Checks.due("the lines of README.md end", lines.waitFor(), 0);
        }
    }

    private static void remove(Path folder) throws IOException {
        List<Path> files;
        try (Stream<Path> all = Files.walk(folder)) {
            files = all.sorted((one, other) -> other.compareTo(one)).toList();
        }
        for (Path file : files) {
            Files.delete(file);
        }
    }
}
