import java.io.ByteArrayOutputStream;
import java.io.IOException;
import java.io.PrintStream;
import java.lang.reflect.InvocationTargetException;
import java.net.URL;
import java.net.URLClassLoader;
import java.nio.charset.StandardCharsets;
import java.nio.file.Files;
import java.nio.file.Path;
import java.util.ArrayList;
import java.util.Comparator;
import java.util.LinkedHashMap;
import java.util.List;
import java.util.Map;
import java.util.regex.Matcher;
import java.util.regex.Pattern;
import java.util.stream.Stream;
import javax.tools.ToolProvider;

/** README.md tells the truth: its example compiles and prints what it says, and its lines about the calls are the face's. */
public final class Readme {
    private static final Check T = new Check("Readme");
    private static final Pattern PRINTED = Pattern.compile("\\bprint\\((?!Object).*\\);\\s+// (.*)");
    private static final Pattern HEAD = Pattern.compile("    public (\\w+ \\w+\\(.*?\\))(?: throws (.*))?;");
    private static final Pattern CALL = Pattern.compile("\\| `(\\w+ \\w+\\(.*?\\))` \\| (.*) \\| (.*) \\|");
    private static final Pattern CONSTANT = Pattern.compile("\\b[A-Z]+ = \\d\\b");
    private static final Pattern EXCEPTION = Pattern.compile("\\w+Exception");

    public static void main(String[] args) throws IOException, ReflectiveOperationException {
        String readme = Files.readString(Path.of("README.md"));
        String face = blockOf(Files.readString(Path.of("../shared/DOC.md")));
        String example = blockOf(readme);
        example(example);
        usesEveryCall(example, face);
        calls(readme, face);
        constants(readme, face);
        tests(readme);
        T.end();
    }

    /** The first block of Java in a text. */
    private static String blockOf(String text) {
        return text.split("```java\n", 2)[1].split("```", 2)[0];
    }

    private static void example(String source) throws IOException, ReflectiveOperationException {
        List<String> due = new ArrayList<>();
        for (String line : source.split("\n")) {
            Matcher printed = PRINTED.matcher(line);
            if (printed.find()) {
                due.add(line.strip() + " -> " + printed.group(1));
            } else {
                T.is("it says what is printed by " + line.strip(), () -> line.contains("print(") && !line.contains("Object"), false);
                T.is("it says an answer where none is printed: " + line.strip(), () -> line.matches(".*\\S.*//.*"), false);
            }
        }
        List<String> printed = run(source).lines().toList();
        T.is("lines that the example prints", () -> printed.size(), due.size());
        for (int place = 0; place < Math.min(printed.size(), due.size()); place++) {
            String line = due.get(place);
            String answer = printed.get(place);
            T.is("line " + (place + 1) + " of the example", () -> line.substring(0, line.indexOf(" -> ")) + " -> " + answer, line);
        }
    }

    /** Compiles the example with the program, from their files as a user does, and answers what it prints. */
    private static String run(String source) throws IOException, ReflectiveOperationException {
        Path folder = Files.createTempDirectory("readme");
        try {
            Path file = Files.writeString(folder.resolve("Example.java"), source);
            int failed = ToolProvider.getSystemJavaCompiler().run(null, null, null, "-Xlint:all", "-Werror", "-encoding", "UTF-8",
                    "-d", folder.toString(), "src/main/java/RollupStore.java", file.toString());
            T.is("the example compiles", () -> failed, 0);
            return failed == 0 ? printedBy(folder) : "";
        } finally {
            remove(folder);
        }
    }

    private static String printedBy(Path folder) throws IOException, ReflectiveOperationException {
        ByteArrayOutputStream bytes = new ByteArrayOutputStream();
        PrintStream before = System.out;
        URL[] classes = {folder.toUri().toURL()};
        try (URLClassLoader loader = new URLClassLoader(classes, ClassLoader.getPlatformClassLoader())) {
            System.setOut(new PrintStream(bytes, true, StandardCharsets.UTF_8));
            loader.loadClass("Example").getMethod("main", String[].class).invoke(null, (Object) new String[0]);
        } catch (InvocationTargetException thrown) {
            T.is("the example throws", () -> thrown.getCause(), "nothing");
        } finally {
            System.setOut(before);
        }
        return bytes.toString(StandardCharsets.UTF_8);
    }

    private static void remove(Path folder) throws IOException {
        try (Stream<Path> files = Files.walk(folder)) {
            for (Path file : files.sorted(Comparator.reverseOrder()).toList()) {
                Files.delete(file);
            }
        }
    }

    /** Of each call of the face, its head and the exceptions of its throws clause. */
    private static Map<String, String> heads(String face) {
        Map<String, String> heads = new LinkedHashMap<>();
        for (String line : face.split("\n")) {
            Matcher head = HEAD.matcher(line);
            if (head.matches()) {
                heads.put(head.group(1), head.group(2) == null ? "nothing" : head.group(2));
            }
        }
        return heads;
    }

    private static void usesEveryCall(String example, String face) {
        T.is("calls of the face", () -> heads(face).size(), 28);
        for (String head : heads(face).keySet()) {
            String name = head.replaceAll("\\w+ (\\w+)\\(.*", "$1");
            T.is("the example uses " + name, () -> example.contains("store." + name + "("), true);
        }
    }

    private static void calls(String readme, String face) {
        Map<String, String> told = new LinkedHashMap<>();
        for (String line : readme.split("\n")) {
            Matcher call = CALL.matcher(line);
            if (call.matches()) {
                List<String> thrown = EXCEPTION.matcher(call.group(3)).results().map(found -> found.group()).toList();
                told.put(call.group(1), thrown.isEmpty() ? call.group(3) : String.join(", ", thrown));
            }
        }
        T.is("the calls that are told, in their order", () -> String.join("\n", told.keySet()),
                String.join("\n", heads(face).keySet()));
        heads(face).forEach((head, thrown) -> T.is("what " + head + " throws", () -> told.get(head), thrown));
    }

    private static void constants(String readme, String face) {
        for (String constant : CONSTANT.matcher(face).results().map(found -> found.group()).toList()) {
            T.is("the constant " + constant, () -> readme.contains("`" + constant + "`"), true);
        }
    }

    /** Each test of the project has its line, and no other has one. */
    private static void tests(String readme) throws IOException {
        List<String> told = Pattern.compile("(?m)^\\| `(\\w+)` \\|[^|]*\\|$").matcher(readme).results()
                .map(found -> found.group(1)).sorted().toList();
        List<String> there = new ArrayList<>();
        try (Stream<Path> files = Files.list(Path.of("src/test/java"))) {
            for (Path file : files.sorted().toList()) {
                if (Files.readString(file).contains("static void main(")) {
                    there.add(file.getFileName().toString().replace(".java", ""));
                }
            }
        }
        T.is("the tests that are told", () -> told, there);
    }
}
