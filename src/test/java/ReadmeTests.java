import java.io.IOException;
import java.io.UncheckedIOException;
import java.net.URL;
import java.net.URLClassLoader;
import java.nio.file.Files;
import java.nio.file.Path;
import java.util.ArrayList;
import java.util.Comparator;
import java.util.List;
import java.util.regex.Matcher;
import java.util.regex.Pattern;
import java.util.stream.Stream;
import javax.tools.ToolProvider;

/** What README.md says holds as it is written: its examples are compiled and run, and each answer is the one behind its call. */
public final class ReadmeTests {
    private static final Pattern CALL = Pattern.compile("(?:int (\\w+) = )?(isle\\.\\w+\\(.*\\)); +// (-?\\w+)(:.*)?");
    private static final Pattern COMMAND = Pattern.compile("```sh\n(.*?)```", Pattern.DOTALL);

    private ReadmeTests() {
    }

    public static void main(String[] args) throws Exception {
        String readme = Files.readString(Path.of("README.md"));
        Path folder = Files.createTempDirectory("readme");
        try {
            examples(readme.split("\n"), folder);
        } finally {
            removeAll(folder);
        }
        namesEveryTest(readme);
        commands(readme);
        Check.end("ReadmeTests");
    }

    private static void examples(String[] lines, Path folder) throws Exception {
        List<String> calls = new ArrayList<>();
        Path source = folder.resolve("Examples.java");
        Files.writeString(source, codeOf(lines, calls));
        int failed = ToolProvider.getSystemJavaCompiler().run(null, null, null, "-cp", System.getProperty("java.class.path"),
                "-d", folder.toString(), source.toString());
        Check.due("compiling the examples", failed, 0);
        if (failed != 0) {
            return;
        }
        try (URLClassLoader loader = new URLClassLoader(new URL[] {folder.toUri().toURL()})) {
            long[] told = (long[]) loader.loadClass("Examples").getMethod("answers").invoke(null);
            Check.due("answers of the examples", told.length, 2 * calls.size());
            for (int i = 0; i < calls.size(); i++) {
                Check.due(calls.get(i), told[2 * i], told[2 * i + 1]);
            }
        }
        namesEveryCall(calls);
    }

    /** The examples as a class that tells what each call answered and what stands behind it; the calls are put into a list. */
    private static String codeOf(String[] lines, List<String> calls) {
        StringBuilder code = new StringBuilder("public final class Examples {\n"
                + "static final int BAD = FootIsle.BAD, NOT = FootIsle.NOT, FULL = FootIsle.FULL, NONE = FootIsle.NONE, NULL = FootIsle.NULL,\n"
                + "CAST = FootIsle.CAST, INDEX = FootIsle.INDEX, SIZE = FootIsle.SIZE;\n"
                + "static long[] told = new long[0];\n"
                + "static void tell(long got, long due) { told = java.util.Arrays.copyOf(told, told.length + 2);"
                + " told[told.length - 2] = got; told[told.length - 1] = due; }\n"
                + "public static long[] answers() {\n");
        boolean inside = false;
        for (String line : lines) {
            if (line.equals("```java") || inside && line.equals("```")) {
                inside = !inside;
                code.append(inside ? "{\n" : "}\n");
            } else if (inside) {
                code.append(asTold(line, calls)).append('\n');
            }
        }
        return code.append("return told; }\n}\n").toString();
    }

    private static String asTold(String line, List<String> calls) {
        Matcher call = CALL.matcher(line);
        if (!call.matches()) {
            Check.due("an answer stands behind " + line, line.startsWith("isle.") || line.startsWith("int ") ? 0 : 1, 1);
            return line;
        }
        calls.add(call.group(2));
        if (call.group(1) == null) {
            return "tell(" + call.group(2) + ", " + call.group(3) + ");";
        }
        return "int " + call.group(1) + " = " + call.group(2) + "; tell(" + call.group(1) + ", " + call.group(3) + ");";
    }

    private static void namesEveryCall(List<String> calls) {
        for (java.lang.reflect.Method m : FootIsle.class.getDeclaredMethods()) {
            if (java.lang.reflect.Modifier.isPublic(m.getModifiers()) && !m.getName().equals("type")) {
                boolean shown = calls.stream().anyMatch(c -> c.startsWith("isle." + m.getName() + "("));
                Check.due("an example shows " + m.getName(), shown ? 1 : 0, 1);
            }
        }
    }

    private static void namesEveryTest(String readme) throws IOException {
        int found = 0;
        try (Stream<Path> files = Files.list(Path.of("src/test/java"))) {
            for (Path file : files.toList()) {
                String name = file.getFileName().toString();
                if (name.endsWith("Tests.java")) {
                    found++;
                    Check.due("README.md names " + name, readme.contains("- `src/test/java/" + name + "`") ? 1 : 0, 1);
                }
                if (name.endsWith("Edges.java")) {
                    Check.due("README.md names " + name, readme.contains("`" + name.replace(".java", "") + "`") ? 1 : 0, 1);
                }
            }
        }
        Check.due("tests that README.md names", readme.split("- `src/test/java/", -1).length - 1, found);
    }

    /** The commands are not run (this test would run itself), but what they name is there. */
    private static void commands(String readme) {
        StringBuilder all = new StringBuilder();
        Matcher block = COMMAND.matcher(readme);
        while (block.find()) {
            all.append(block.group(1));
        }
        Check.due("commands", all.toString().split("\n").length, 3);
        Check.due("it tells .ci/run", all.indexOf(".ci/run\n"), 0);
        Check.due(".ci/run can be run", Files.isExecutable(Path.of(".ci/run")) ? 1 : 0, 1);
        Matcher test = Pattern.compile("java -cp \\S+ (\\w+)").matcher(all);
        Check.due("it tells how one test is run", test.find() && Files.exists(Path.of("src/test/java", test.group(1) + ".java")) ? 1 : 0, 1);
    }

    private static void removeAll(Path folder) throws IOException {
        try (Stream<Path> files = Files.walk(folder)) {
            files.sorted(Comparator.reverseOrder()).forEach(ReadmeTests::remove);
        }
    }

    private static void remove(Path file) {
        try {
            Files.delete(file);
        } catch (IOException e) {
            throw new UncheckedIOException(e);
        }
    }
}
