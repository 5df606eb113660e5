import java.io.IOException;
import java.net.URL;
import java.net.URLClassLoader;
import java.nio.file.Files;
import java.nio.file.Path;
import java.util.ArrayList;
import java.util.List;
import java.util.Set;
import java.util.TreeSet;
import java.util.regex.Matcher;
import java.util.regex.Pattern;
import java.util.stream.Stream;
import javax.tools.ToolProvider;

/**
 * README.md holds as it stands there: its examples compile, each call answers the number behind it, every call of the
 * face is shown, the constants are told with their values, and its table names every test that there is.
 */
public final class ReadmeTest {
    private static final Checks CHECKS = new Checks();
    private static final Pattern BLOCK = Pattern.compile("(?ms)^```java\\n(.*?)^```$");
    private static final Pattern ANSWERED = Pattern.compile("(x\\.(\\w+)\\([^;]*\\)); +// (-?\\d+|[A-Z]+)(:.*)?");
    private static final Pattern OWN_TEST = Pattern.compile("(?m)^\\| `src/test/java/(\\w+)\\.java` \\|");
    private static final Pattern CONSTANT = Pattern.compile("`([A-Z]+)` \\((-?\\d+)");

    /** The calls whose answers have been looked at; the examples ask through it. */
    private static final Set<String> SHOWN = new TreeSet<>();

    public static void main(String[] args) throws Exception {
        Path root = Path.of(System.getProperty("lateChecks.root"));
        String page = Files.readString(root.resolve("README.md"));
        examples(page);
        constants(page);
        table(page, root);
        commands(page, root);
        CHECKS.end("ReadmeTest");
    }

    /** Called by the examples, once they are compiled. */
    public static void due(String name, String call, int got, int want) {
        SHOWN.add(name);
        CHECKS.due("README: " + call, got, want);
    }

    private static void examples(String page) throws Exception {
        StringBuilder source = new StringBuilder("public final class ReadmeExamples {\n");
        int blocks = 0;
        int lines = 0;
        Matcher block = BLOCK.matcher(page);
        while (block.find()) {
            source.append("public static void example").append(blocks++).append("() {\n");
            for (String line : block.group(1).split("\n")) {
                Matcher answered = ANSWERED.matcher(line);
                boolean asks = answered.matches();
                lines += asks ? 1 : 0;
                source.append(asks ? question(answered) : line).append('\n');
            }
            source.append("}\n");
        }
        // an answer that the pattern does not see would pass unasked
        CHECKS.due("README: lines with // in examples", lines, BLOCK.matcher(page).results()
                .flatMap(b -> b.group(1).lines()).filter(l -> l.contains("//")).count());
        runExamples(source.append("}\n").toString(), blocks);
        for (String name : Calls.NAMES) {
            CHECKS.due("README: " + name + "() is shown", SHOWN.contains(name) ? 1 : 0, 1);
        }
    }

    private static String question(Matcher answered) {
        String answer = answered.group(3);
        String want = Character.isUpperCase(answer.charAt(0)) ? "LateChecks." + answer : answer;
        return "ReadmeTest.due(\"" + answered.group(2) + "\", \"" + answered.group(1) + "\", " + answered.group(1) + ", " + want + ");";
    }

    private static void runExamples(String source, int blocks) throws Exception {
        Path folder = Files.createTempDirectory("readme");
        Path file = folder.resolve("ReadmeExamples.java");
        Files.writeString(file, source);
        int compiled = ToolProvider.getSystemJavaCompiler().run(null, null, null, "--release", "17", "-encoding", "UTF-8",
                "-cp", System.getProperty("java.class.path"), "-d", folder.toString(), file.toString());
        CHECKS.due("README: the examples compile", compiled, 0);
        CHECKS.due("README: there are examples", blocks > 0 ? 1 : 0, 1);
        if (compiled == 0) {
            try (URLClassLoader loader = new URLClassLoader(new URL[] {folder.toUri().toURL()})) {
                for (int b = 0; b < blocks; b++) {
                    loader.loadClass("ReadmeExamples").getMethod("example" + b).invoke(null);
                }
            }
        }
        for (Path made : filesOf(folder)) {
            Files.delete(made);
        }
        Files.delete(folder);
    }

    private static List<Path> filesOf(Path folder) throws IOException {
        try (Stream<Path> files = Files.list(folder)) {
            return new ArrayList<>(files.toList());
        }
    }

    private static void constants(String page) throws ReflectiveOperationException {
        int found = 0;
        Matcher told = CONSTANT.matcher(page);
        while (told.find()) {
            found++;
            CHECKS.due("README: " + told.group(1), LateChecks.class.getField(told.group(1)).getInt(null), Integer.parseInt(told.group(2)));
        }
        CHECKS.due("README: constants that are told", found, LateChecks.class.getFields().length);
    }

    private static void table(String page, Path root) throws IOException {
        Set<String> told = new TreeSet<>();
        OWN_TEST.matcher(page).results().forEach(row -> told.add(row.group(1)));
        Set<String> there = new TreeSet<>();
        for (Path file : filesOf(root.resolve("src/test/java"))) {
            String name = file.getFileName().toString();
            if (name.endsWith("Test.java")) {
                there.add(name.substring(0, name.length() - ".java".length()));
            }
        }
        CHECKS.due("README: tests told are " + told + ", there are " + there, told.equals(there) ? 1 : 0, 1);
    }

    private static void commands(String page, Path root) {
        CHECKS.due("README: says how the tests are run", page.contains("\n    bash .ci/run\n") ? 1 : 0, 1);
        CHECKS.due("README: .ci/run can be run", Files.isExecutable(root.resolve(".ci/run")) ? 1 : 0, 1);
        for (String path : new String[] {"src/main/java/LateChecks.java", "../shared/DOC.md", "../shared/LANGUAGE.md"}) {
            CHECKS.due("README: names " + path, page.contains("`" + path + "`") ? 1 : 0, 1);
            CHECKS.due("README: " + path + " is there", Files.isReadable(root.resolve(path)) ? 1 : 0, 1);
        }
    }
}
