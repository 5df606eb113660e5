import java.io.IOException;
import java.lang.reflect.Constructor;
import java.lang.reflect.Field;
import java.lang.reflect.Method;
import java.lang.reflect.Modifier;
import java.nio.file.Files;
import java.nio.file.Path;
import java.util.ArrayList;
import java.util.Arrays;
import java.util.List;
import java.util.Set;
import java.util.TreeSet;
import java.util.regex.Matcher;
import java.util.regex.Pattern;

/** The document's face, and what of LANGUAGE.md a look at the class and at its source can tell. */
public final class LanguageTest {
    private static final Checks CHECKS = new Checks();
    private static final String[] FACE = {
        "write 1", "erase 0", "fault 0", "tell 0", "item 2", "put 2", "limit 1", "begin 1", "retry 1", "read 2", "lay 3",
        "commit 2", "peek 2", "abort 1", "sweep 0", "send 1", "vote 1", "settle 0", "deal 2", "noted 3", "sent 1",
        "ballot 2", "log 2", "logged 3", "behind 2", "count 1",
    };
    private static final String[] CONSTANTS = {
        "NONE -1", "UNKNOWN -2", "OUTSIDE -3", "NOT -4", "FULL -5", "STALE -11", "VAIN -12", "YIELDS -13",
    };
    private static final String[] NOT_ALLOWED = {
        "throw", "throws", "try", "catch", "finally", "synchronized", "assert", "package", "native", "volatile", "transient",
        "protected", "var", "yield", "System", "Thread", "Object", "Exception", "Random", "double", "float",
    };

    /** What rule 4 lists, as far as a class without lists and texts that are built can need it. */
    private static final Set<String> LIBRARY = Set.of(
            "java/lang/Object.<init>", "java/lang/String.length", "java/lang/String.charAt", "java/lang/String.isEmpty",
            "java/lang/String.equals", "java/lang/Integer.bitCount", "java/lang/Integer.compare", "java/lang/Math.max",
            "java/lang/Math.min", "java/lang/Math.abs", "java/lang/Math.floorDiv", "java/lang/Math.floorMod",
            "java/util/Arrays.fill");

    public static void main(String[] args) throws IOException, IllegalAccessException {
        String source = Files.readString(Path.of(System.getProperty("lateChecks.source")));
        theClass();
        theMethods();
        theConstants();
        theClassesInside();
        theLibrary();
        theSource(source);
        theFaceAsWritten(source, Files.readString(Path.of(System.getProperty("lateChecks.document"))));
        CHECKS.end("LanguageTest");
    }

    private static void holds(String what, boolean so) {
        CHECKS.due(what, so ? 1 : 0, 1);
    }

    private static void theClass() {
        holds("rule 1: public and final", LateChecks.class.getModifiers() == (Modifier.PUBLIC | Modifier.FINAL));
        Constructor<?>[] makers = LateChecks.class.getDeclaredConstructors();
        holds("rule 1: one constructor", makers.length == 1);
        holds("rule 1: public, of no argument", Modifier.isPublic(makers[0].getModifiers()) && makers[0].getParameterCount() == 0);
    }

    private static void theMethods() {
        Set<String> open = new TreeSet<>();
        Set<String> names = new TreeSet<>();
        for (Method m : LateChecks.class.getDeclaredMethods()) {
            if (Modifier.isPublic(m.getModifiers())) {
                open.add(m.getName() + " " + m.getParameterCount());
                names.add(m.getName());
                holds("face: " + m + " is of ints", m.getReturnType() == int.class
                        && Arrays.stream(m.getParameterTypes()).allMatch(t -> t == int.class));
                holds("face: " + m + " is not static", !Modifier.isStatic(m.getModifiers()));
            } else {
                holds("rule 1: " + m + " is private", Modifier.isPrivate(m.getModifiers()));
            }
        }
        holds("face: the methods are " + open, open.equals(new TreeSet<>(Arrays.asList(FACE))));
        for (Method m : LateChecks.class.getDeclaredMethods()) {
            holds("rule 1: " + m + " has a name of its own", Modifier.isPublic(m.getModifiers()) || !names.contains(m.getName()));
        }
    }

    private static void theConstants() throws IllegalAccessException {
        Set<String> open = new TreeSet<>();
        for (Field f : LateChecks.class.getDeclaredFields()) {
            if (Modifier.isPublic(f.getModifiers())) {
                open.add(f.getName() + " " + f.getInt(null));
            } else {
                holds("rule 1: " + f + " is private", Modifier.isPrivate(f.getModifiers()));
            }
            holds("rule 5: " + f + " is final if static", !Modifier.isStatic(f.getModifiers()) || Modifier.isFinal(f.getModifiers()));
        }
        holds("face: the constants are " + open, open.equals(new TreeSet<>(Arrays.asList(CONSTANTS))));
    }

    private static void theClassesInside() {
        Class<?>[] inside = LateChecks.class.getDeclaredClasses();
        holds("rule 11: at most twelve classes", inside.length < 12);
        for (Class<?> c : inside) {
            int m = c.getModifiers();
            holds("rule 1: " + c + " is static, and not open", Modifier.isStatic(m) && !Modifier.isPublic(m) && !Modifier.isProtected(m));
            int fields = 0;
            for (Field f : c.getDeclaredFields()) {
                boolean constant = Modifier.isStatic(f.getModifiers());
                holds("rule 5: " + f + " is final if static", !constant || Modifier.isFinal(f.getModifiers()));
                fields += constant ? 0 : 1;
            }
            holds("rule 11: " + c + " has at most twenty fields", fields <= 20);
            for (Method method : c.getDeclaredMethods()) {
                holds("rule 11: " + method + " takes at most seven", method.getParameterCount() <= 7);
                holds("rule 6: " + method, !Set.of("equals", "hashCode", "toString").contains(method.getName()));
            }
        }
    }

    private static void theLibrary() throws IOException {
        List<Class<?>> classes = new ArrayList<>(List.of(LateChecks.class.getDeclaredClasses()));
        classes.add(LateChecks.class);
        for (Class<?> c : classes) {
            ClassFile file = new ClassFile(c);
            holds("rules 2, 10: " + c + " has nothing that is made at run time", !file.isDynamic());
            holds("rule 4: " + c + " names something", !file.named().isEmpty());
            for (String name : file.named()) {
                boolean own = name.startsWith("LateChecks.") || name.startsWith("LateChecks$");
                holds("rule 4: " + c + " uses " + name, own || LIBRARY.contains(name));
            }
        }
    }

    /** Reflection tells neither the names nor the order of parameters: each line of the face stands in the source. */
    private static void theFaceAsWritten(String source, String document) {
        Matcher face = Pattern.compile("(?s)## The public face\\s+```java\\n(.*?)```").matcher(document);
        holds("the document has a face", face.find());
        int lines = 0;
        for (String line : face.group(1).split("\n")) {
            String due = line.endsWith(");") ? line.substring(0, line.length() - 1) + " {" : line;
            lines += line.equals("}") ? 0 : 1;
            holds("rule 1: the source has the line \"" + due + "\"", source.lines().anyMatch(due::equals));
        }
        long open = source.lines().filter(l -> l.strip().startsWith("public ")).count();
        CHECKS.due("rule 1: lines of the source that begin with public", open, lines);
    }

    private static void theSource(String source) {
        String code = source.replaceAll("(?s)/\\*.*?\\*/", "").replaceAll("//[^\n]*", "").replaceAll("\"[^\"]*\"", "\"\"");
        for (String word : NOT_ALLOWED) {
            holds("rules 4, 6: no " + word, !Pattern.compile("\\b" + word + "\\b").matcher(code).find());
        }
        for (String sign : new String[] {"->", "::", "import", "@", "[][]"}) {
            holds("rules 2, 4: no " + sign, !code.contains(sign));
        }
        holds("texts of signs 1 to 127", source.chars().allMatch(c -> c >= 1 && c <= 127));
        methodLengths(code);
    }

    /** A method stands four or eight blanks in, and ends with a brace as far in. */
    private static void methodLengths(String code) {
        Matcher m = Pattern.compile("(?ms)^( {4}| {8})([^ \n][^\n;=]*\\([^\n;]*\\)) \\{$(.*?)^\\1\\}$").matcher(code);
        int found = 0;
        while (m.find()) {
            found++;
            holds("rule 11: " + m.group(2) + " is short", m.group(3).lines().count() <= 60);
        }
        holds("methods are found", found > 26);
    }
}
