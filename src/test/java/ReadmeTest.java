import java.io.IOException;
import java.lang.reflect.Method;
import java.lang.reflect.Modifier;
import java.net.URL;
import java.net.URLClassLoader;
import java.nio.file.Files;
import java.nio.file.Path;
import java.util.ArrayList;
import java.util.Comparator;
import java.util.List;
import java.util.Set;
import java.util.TreeSet;
import java.util.regex.Matcher;
import java.util.regex.Pattern;
import java.util.stream.Stream;
import javax.tools.ToolProvider;

/** What README.md tells: its example's answers, the numbers and names of its tables, and the command. */
public final class ReadmeTest {
    private static final Path README = Path.of("README.md");
    // A call on a line of its own, and the answer that the comment behind it begins with.
    private static final Pattern CALL = Pattern.compile("^(x\\.\\w+\\(.*\\)); +// (-?\\d+).*");

    public static void main(String[] args) throws Exception {
        List<String> lines = Files.readAllLines(README);
        answers(lines);
        findings(lines);
        calls(lines);
        command(lines);
        example(lines);
        Check.end();
    }

    // ---- the tables

    /** The rows of a table, each by what stands between its bars, that match all of these. */
    private static List<String[]> rows(List<String> lines, String... patterns) {
        List<String[]> found = new ArrayList<>();
        for (String line : lines) {
            String[] parts = line.startsWith("| ") ? line.substring(2).split(" \\|( |$)") : new String[0];
            boolean fits = parts.length > patterns.length;
            for (int i = 0; fits && i < patterns.length; i++) {
                fits = parts[i].matches(patterns[i]);
            }
            if (fits) {
                found.add(parts);
            }
        }
        return found;
    }

    private static void answers(List<String> lines) throws ReflectiveOperationException {
        List<String[]> rows = rows(lines, "-\\d", "`[A-Z]+`");
        Check.due("answers in the table", rows.size(), 6);
        for (String[] row : rows) {
            String name = row[1].replace("`", "");
            Check.due(name, PinDuties.class.getField(name).getInt(null), Integer.parseInt(row[0]));
        }
    }

    // The document names the findings in their order.
    private static void findings(List<String> lines) {
        List<String[]> rows = rows(lines, "\\d", "`[A-Z]+`");
        Check.due("findings in the table", rows.size(), 5);
        String[] names = {"NOTHING", "BEYOND", "UNLIKE", "NOUGHT", "SIZE"};
        for (int i = 0; i < rows.size(); i++) {
            Check.due("number of a finding", Integer.parseInt(rows.get(i)[0]), i + 1);
            Check.due(names[i] + " is " + (i + 1) + " (1: so)", rows.get(i)[1].equals("`" + names[i] + "`") ? 1 : 0, 1);
        }
        PinDuties x = new PinDuties();
        x.row(0, 0);
        Check.finds(x, "at(1, 0): NOTHING", x.at(1, 0), 1);
        Check.finds(x, "at(0, 0): BEYOND", x.at(0, 0), 2);
        Check.finds(x, "mean(0): NOUGHT", x.mean(0), 4);
        Check.finds(x, "row(0, -1): SIZE", x.row(0, -1), 5);
        x = Check.street("p0010");
        Check.finds(x, "mark(0, 1): UNLIKE", x.mark(0, 1), 3);
    }

    private static void calls(List<String> lines) {
        Set<String> told = new TreeSet<>();
        for (String[] row : rows(lines, "(`[a-z]+` ?)+")) {
            for (String name : row[0].split(" ")) {
                Check.due(name + " stands once in the table (1: so)", told.add(name.replace("`", "")) ? 1 : 0, 1);
            }
        }
        Set<String> due = new TreeSet<>();
        for (Method m : PinDuties.class.getDeclaredMethods()) {
            if (Modifier.isPublic(m.getModifiers())) {
                due.add(m.getName());
            }
        }
        Check.due("calls in the table: " + told + ", due are " + due + " (1: so)", told.equals(due) ? 1 : 0, 1);
    }

    private static void command(List<String> lines) {
        Check.due("the command stands on a line of its own (1: so)", lines.contains("    .ci/run") ? 1 : 0, 1);
        Check.due(".ci/run can be run (1: so)", Files.isExecutable(Path.of(".ci/run")) ? 1 : 0, 1);
    }

    // ---- the example

    private static void example(List<String> lines) throws Exception {
        List<String> code = lines.subList(lines.indexOf("```java") + 1, lines.lastIndexOf("```"));
        StringBuilder source = new StringBuilder("public class ReadmeExample { public static void run() {\n");
        int held = 0;
        for (String line : code) {
            Matcher m = CALL.matcher(line);
            if (m.matches()) {
                held++;
                source.append("due(\"").append(m.group(1)).append("\", ").append(m.group(1)).append(", ")
                    .append(m.group(2)).append(");\n");
            } else {
                Check.due("a line without an answer: " + line, line.matches(".*; +//.*") ? 1 : 0, 0);
                source.append(line).append('\n');
            }
        }
        source.append("}\npublic static int made, wrong;\nstatic void due(String call, long got, long want) { made++;\n")
            .append("if (got != want) { wrong++;\n")
            .append("System.out.println(\"README.md: \" + call + \" answered \" + got + \", due is \" + want); } }\n}\n");
        runExample(source.toString(), held);
    }

    private static void runExample(String source, int held) throws Exception {
        Path folder = Files.createTempDirectory("readme");
        try {
            Path file = folder.resolve("ReadmeExample.java");
            Files.writeString(file, source);
            int compiled = ToolProvider.getSystemJavaCompiler().run(null, null, null, "-cp",
                System.getProperty("java.class.path"), "-d", folder.toString(), file.toString());
            Check.due("the example compiles (0: so)", compiled, 0);
            if (compiled == 0) {
                askExample(folder, held);
            }
        } finally {
            remove(folder);
        }
    }

    private static void askExample(Path folder, int held) throws Exception {
        try (URLClassLoader loader = new URLClassLoader(new URL[] {folder.toUri().toURL()})) {
            Class<?> example = loader.loadClass("ReadmeExample");
            example.getMethod("run").invoke(null);
            Check.due("answers of the example that were held", example.getField("made").getInt(null), held);
            Check.due("at least twenty (1: so)", held >= 20 ? 1 : 0, 1);
            Check.due("wrong answers of the example", example.getField("wrong").getInt(null), 0);
        }
    }

    private static void remove(Path folder) throws IOException {
        try (Stream<Path> all = Files.walk(folder)) {
            for (Path path : all.sorted(Comparator.reverseOrder()).toList()) {
                Files.delete(path);
            }
        }
    }
}
