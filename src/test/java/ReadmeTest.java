import java.io.File;
import java.io.IOException;
import java.net.URL;
import java.net.URLClassLoader;
import java.nio.file.Files;
import java.nio.file.Path;
import java.util.ArrayList;
import java.util.List;
import java.util.Map;
import java.util.regex.Matcher;
import java.util.regex.Pattern;
import javax.tools.ToolProvider;

/** What README.md says is so: its example, the calls that it tells of, and the tests that it names. */
public final class ReadmeTest {
    private static final Path TESTS = Path.of("src/test/java");
    private static final Map<String, Integer> CONSTANTS = Map.of("NONE", TopStreet.NONE, "BAD", TopStreet.BAD,
        "STATE", TopStreet.STATE, "FULL", TopStreet.FULL);
    private static final int PROMISES = 37;

    private static String readme;

    public static void main(String[] args) throws IOException, ReflectiveOperationException {
        readme = Files.readString(Path.of("README.md"));
        example();
        everyCall();
        everyConstant();
        everyTest();
        everyPromise();
        Due.end("ReadmeTest");
    }

    private static void so(String what, boolean is) {
        Due.is(what, 1, is ? 1 : 0);
    }

    /** Each line of the example that tells an answer is held against that of the class. */
    private static void example() throws IOException, ReflectiveOperationException {
        Matcher block = Pattern.compile("```java\n(.*?)```", Pattern.DOTALL).matcher(readme);
        so("README.md has an example", block.find());
        Pattern told = Pattern.compile("(x\\.\\w+\\(.*?\\)); +// (-?\\w+).*");
        List<String> calls = new ArrayList<>();
        List<Integer> due = new ArrayList<>();
        StringBuilder body = new StringBuilder();
        for (String line : block.group(1).split("\n")) {
            Matcher call = told.matcher(line);
            if (call.matches()) {
                calls.add(call.group(1));
                due.add(CONSTANTS.containsKey(call.group(2)) ? CONSTANTS.get(call.group(2))
                    : Integer.parseInt(call.group(2)));
                body.append("got.add((long) ").append(call.group(1)).append(");\n");
            } else {
                body.append(line).append('\n');
            }
        }
        List<?> got = answers(body.toString());
        Due.is("answers of the example", calls.size(), got.size());
        for (int i = 0; i < Math.min(calls.size(), got.size()); i++) {
            Due.is("README.md, " + calls.get(i), due.get(i), (Long) got.get(i));
        }
    }

    /** Runs the lines of a body that adds its answers to a list. */
    private static List<?> answers(String body) throws IOException, ReflectiveOperationException {
        Path dir = Files.createTempDirectory("readme");
        Path source = dir.resolve("Example.java");
        Path made = dir.resolve("Example.class");
        try {
            Files.writeString(source, "public final class Example {\n"
                + "public static java.util.List<Long> answers() {\n"
                + "java.util.List<Long> got = new java.util.ArrayList<>();\n" + body + "return got;\n}\n}\n");
            int failed = ToolProvider.getSystemJavaCompiler().run(null, null, null, "-cp",
                System.getProperty("java.class.path"), "-d", dir.toString(), source.toString());
            Due.is("the example compiles", 0, failed);
            if (failed != 0) {
                return List.of();
            }
            try (URLClassLoader loader = new URLClassLoader(new URL[] {dir.toUri().toURL()})) {
                return (List<?>) loader.loadClass("Example").getMethod("answers").invoke(null);
            }
        } finally {
            Files.deleteIfExists(made);
            Files.deleteIfExists(source);
            Files.deleteIfExists(dir);
        }
    }

    private static void everyCall() throws IOException {
        String source = Files.readString(Path.of("src/main/java/TopStreet.java"));
        Matcher call = Pattern.compile("public (?:int|long) (\\w+)\\((.*?)\\) \\{").matcher(source);
        int calls = 0;
        while (call.find()) {
            String named = call.group(1) + "(" + call.group(2).replace("int ", "") + ")";
            so("README.md tells of " + named, readme.contains("`" + named + "`"));
            calls++;
        }
        Due.is("calls of the face", 36, calls);
    }

    private static void everyConstant() {
        for (String name : CONSTANTS.keySet()) {
            so("README.md tells of " + name, readme.contains("`" + name + "`"));
        }
    }

    private static void everyTest() {
        String[] files = TESTS.toFile().list();
        so("there are tests", files != null);
        for (String file : files == null ? new String[0] : files) {
            String name = file.replace(".java", "");
            so("README.md tells of " + name, !name.endsWith("Test") || readme.contains("`" + name + "`"));
        }
        Matcher named = Pattern.compile("`(\\w+Test)`").matcher(readme);
        while (named.find()) {
            so(named.group(1) + " is there", new File(TESTS.toFile(), named.group(1) + ".java").exists());
        }
    }

    /** The table of promises names each of them, and the test that has a method for it, which is run. */
    private static void everyPromise() throws IOException {
        boolean[] told = new boolean[PROMISES + 1];
        Matcher row = Pattern.compile("\\| (\\d+)(?: to (\\d+))? \\| `(\\w+)` \\|").matcher(readme);
        while (row.find()) {
            int first = Integer.parseInt(row.group(1));
            int last = row.group(2) == null ? first : Integer.parseInt(row.group(2));
            String source = Files.readString(TESTS.resolve(row.group(3) + ".java"));
            for (int p = first; p <= last; p++) {
                Matcher method = Pattern.compile("private static void (promise" + p + "[A-Z]\\w*)\\(\\)").matcher(source);
                so("a method for promise " + p + " in " + row.group(3), method.find());
                so("it is run", source.contains("        " + method.group(1) + "();\n"));
                told[p] = true;
            }
        }
        for (int p = 1; p <= PROMISES; p++) {
            so("README.md tells which test is for promise " + p, told[p]);
        }
    }
}
