import java.io.IOException;
import java.nio.file.Files;
import java.nio.file.Path;
import java.util.ArrayList;
import java.util.LinkedHashMap;
import java.util.LinkedHashSet;
import java.util.List;
import java.util.Map;
import java.util.Set;
import java.util.regex.Matcher;
import java.util.regex.Pattern;

/**
 * The document's sentences, by their sections ("Terms", "Object", "1" .. "27"). Tests open the sentence that they
 * look at; in the end none may be left that no test has opened, so that none is forgotten.
 */
final class Book {
    /** A point that ends a sentence: not one of "0 .. 7". */
    private static final Pattern END = Pattern.compile("(?<=[^. ])\\.\\)?(?: |$)");
    private static final Pattern PROMISE = Pattern.compile("## Promise (\\d+): .*");

    private final Checks checks;
    private final Map<String, List<String>> sentences = new LinkedHashMap<>();
    private final Set<String> opened = new LinkedHashSet<>();
    private final boolean here;

    Book(Checks checks, String document) throws IOException {
        this.checks = checks;
        here = document != null && Files.isReadable(Path.of(document));
        if (here) {
            parse(Files.readAllLines(Path.of(document)));
        }
    }

    /** A new object for the sentence of a section that begins so. */
    Run at(String section, String beginning) {
        open(section, beginning);
        return new Run(checks, section + ", \"" + beginning + " ..\"");
    }

    void open(String section, String beginning) {
        int found = 0;
        for (String s : sentences.getOrDefault(section, List.of())) {
            if (s.startsWith(beginning)) {
                found++;
                opened.add(section + ": " + s);
            }
        }
        if (here) {
            checks.due("sentences of " + section + " that begin with \"" + beginning + "\"", found, 1);
        }
    }

    void same(String what, String one, String other) {
        if (!one.equals(other)) {
            System.out.println(what + ":\n" + one + "\nis not as due:\n" + other);
        }
        checks.due(what + ", is as due", one.equals(other) ? 1 : 0, 1);
    }

    /** Every sentence was opened by a test. */
    void close() {
        if (!here) {
            System.out.println("the document is not here: whether every sentence has a test was not looked at");
            return;
        }
        int many = 0;
        for (Map.Entry<String, List<String>> section : sentences.entrySet()) {
            for (String s : section.getValue()) {
                many++;
                checks.due("tests of " + section.getKey() + ": " + s, opened.contains(section.getKey() + ": " + s) ? 1 : 0, 1);
            }
        }
        for (int promise = 1; promise <= 27; promise++) {
            checks.due("the document has promise " + promise, sentences.containsKey("" + promise) ? 1 : 0, 1);
        }
        System.out.println(many + " sentences, " + opened.size() + " opened");
    }

    private void parse(List<String> lines) {
        String section = "";
        for (String line : lines) {
            Matcher promise = PROMISE.matcher(line);
            if (promise.matches()) {
                section = promise.group(1);
            } else if (line.startsWith("#")) {
                section = line.equals("## Terms") ? "Terms" : "";
            } else if (line.startsWith("An object is used")) {
                keep("Object", line);
            } else if (!section.isEmpty() && !line.startsWith("```") && !line.startsWith("Ahead of the calls")) {
                keep(section, line.replaceFirst("^`[^`]*`: ", ""));
            }
        }
    }

    private void keep(String section, String line) {
        for (String s : END.split(line.strip())) {
            if (!s.isBlank()) {
                sentences.computeIfAbsent(section, k -> new ArrayList<>()).add(s.strip());
            }
        }
    }
}
