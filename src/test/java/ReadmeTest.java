import java.io.IOException;
import java.lang.reflect.Method;
import java.lang.reflect.Modifier;
import java.nio.file.Files;
import java.nio.file.Path;
import java.util.ArrayList;
import java.util.Comparator;
import java.util.List;
import java.util.Set;
import java.util.TreeSet;
import java.util.regex.Matcher;
import java.util.regex.Pattern;
import java.util.stream.Stream;

/** What README.md says of the use of the class and of running its tests holds as it stands there. */
public final class ReadmeTest {
    private static final Pattern CALL = Pattern.compile("x\\.(\\w+)\\(.*\\);");
    private static final Pattern CALL_WITH_ANSWER = Pattern.compile("(x\\.\\w+\\(.*\\));\\s+// (-?\\d+|true|false)(:.*)?");

    private static int wrong = 0;

    public static void main(String[] args) throws Exception {
        String text = Files.readString(Path.of("README.md"));
        Path place = Files.createTempDirectory("readme");
        try {
            checkExample(block(text, "java", 0), place);
            checkTable(text);
            checkCommands(text, place);
            checkListOfTests(text);
        } finally {
            delete(place);
        }
        System.out.println(wrong == 0 ? "README.md holds" : wrong + " things in README.md do not hold");
        if (wrong != 0) {
            System.exit(1);
        }
    }

    private static void must(boolean holds, String text) {
        if (!holds) {
            wrong++;
            System.out.println(text);
        }
    }

    private static List<String> block(String text, String language, int which) {
        Matcher m = Pattern.compile("(?s)```" + language + "\n(.*?)```").matcher(text);
        for (int i = 0; i <= which; i++) {
            if (!m.find()) {
                must(false, "there is no block " + which + " of " + language);
                return List.of();
            }
        }
        return m.group(1).lines().toList();
    }

    private static Set<String> face() {
        Set<String> names = new TreeSet<>();
        for (Method m : NodeMaker.class.getDeclaredMethods()) {
            if (Modifier.isPublic(m.getModifiers())) {
                names.add(m.getName());
            }
        }
        return names;
    }

    /** Runs the example's own text, with each answer that it tells compared. */
    private static void checkExample(List<String> lines, Path place) throws Exception {
        Set<String> called = new TreeSet<>();
        StringBuilder body = new StringBuilder();
        for (String line : lines) {
            Matcher call = CALL.matcher(line);
            Matcher told = CALL_WITH_ANSWER.matcher(line);
            if (call.lookingAt()) {
                called.add(call.group(1));
                must(told.matches() || call.group(1).equals("clear"), "no answer is told: " + line);
            }
            body.append(told.matches() ? compared(told.group(1), told.group(2)) : line).append('\n');
        }
        must(called.equals(face()), "the example calls " + called);
        Path source = place.resolve("Example.java");
        Files.writeString(source, "public final class Example {\n"
            + "static int wrong = 0;\n"
            + "static void due(String call, Object got, Object want) {\n"
            + "if (!got.equals(want)) { wrong++; System.out.println(call + \" answered \" + got + \", told is \" + want); } }\n"
            + "public static void main(String[] args) {\n" + body + "System.exit(wrong == 0 ? 0 : 1); } }\n");
        Path main = Path.of("src/main/java/NodeMaker.java").toAbsolutePath();
        Path classes = place.resolve("example");
        must(run(place, "javac", "-d", classes.toString(), main.toString(), source.toString()), "the example does not compile");
        must(run(place, "java", "-cp", classes.toString(), "Example"), "the example does not hold");
    }

    private static String compared(String call, String answer) {
        return "due(\"" + call + "\", " + call + ", " + answer + (call.startsWith("x.quotient") ? "L" : "") + ");";
    }

    private static void checkTable(String text) {
        Set<String> told = new TreeSet<>();
        Matcher row = Pattern.compile("(?m)^\\| `(\\w+)\\((.*?)\\)` \\|").matcher(text);
        while (row.find()) {
            told.add(row.group(1));
            int parameters = row.group(2).isEmpty() ? 0 : row.group(2).split(", ").length;
            must(parameters == parametersOf(row.group(1)), "the table tells " + row.group(1) + "(" + row.group(2) + ")");
        }
        must(told.equals(face()), "the table tells of " + told);
    }

    private static int parametersOf(String name) {
        for (Method m : NodeMaker.class.getDeclaredMethods()) {
            if (m.getName().equals(name)) {
                return m.getParameterCount();
            }
        }
        return -1;
    }

    /** The first block is the script that runs this very test; it is only looked at. */
    private static void checkCommands(String text, Path place) throws Exception {
        List<String> all = block(text, "sh", 0);
        must(all.equals(List.of(".ci/run")) && Files.isExecutable(Path.of(".ci/run")), "no script to run: " + all);
        Path copy = place.resolve("project");
        copy(Path.of("src"), copy.resolve("src"));
        for (String command : block(text, "sh", 1)) {
            must(run(copy, "sh", "-c", command), "failed: " + command);
        }
    }

    private static void checkListOfTests(String text) throws IOException {
        Set<String> told = new TreeSet<>();
        Matcher m = Pattern.compile("(?m)^- (\\w+): ").matcher(text);
        while (m.find()) {
            told.add(m.group(1) + ".java");
        }
        Set<String> found = new TreeSet<>();
        try (Stream<Path> files = Files.list(Path.of("src/test/java"))) {
            files.forEach(f -> found.add(f.getFileName().toString()));
        }
        must(told.equals(found), "the tests told are " + told + ", those there are " + found);
    }

    private static boolean run(Path directory, String... command) throws Exception {
        Process p = new ProcessBuilder(command).directory(directory.toFile()).redirectErrorStream(true).start();
        String printed = new String(p.getInputStream().readAllBytes());
        boolean passed = p.waitFor() == 0;
        if (!passed) {
            System.out.print(printed);
        }
        return passed;
    }

    private static List<Path> under(Path root) throws IOException {
        try (Stream<Path> found = Files.walk(root)) {
            return new ArrayList<>(found.toList());
        }
    }

    private static void copy(Path from, Path to) throws IOException {
        Files.createDirectories(to.getParent());
        for (Path p : under(from)) {
            Files.copy(p, to.resolve(from.relativize(p).toString()));
        }
    }

    private static void delete(Path root) throws IOException {
        List<Path> all = under(root);
        all.sort(Comparator.reverseOrder());
        for (Path p : all) {
            Files.delete(p);
        }
    }
}
