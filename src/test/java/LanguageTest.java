import java.io.IOException;
import java.nio.file.Files;
import java.nio.file.Path;
import java.util.ArrayList;
import java.util.List;
import java.util.Set;
import java.util.TreeSet;
import java.util.regex.Matcher;
import java.util.regex.Pattern;

/**
 * The rules of ../shared/LANGUAGE.md that a look at the source can hold. It reads
 * src/main/java/PinDuties.java, so it is run from the project's folder.
 */
public final class LanguageTest {
    private static final String METHOD =
        "^ {4,8}(public |private |static |final )*(int|long|void|boolean|Cells|Deeds) (\\w+)\\(([^)]*)\\) \\{$";

    public static void main(String[] args) throws IOException {
        List<String> lines = Files.readAllLines(Path.of("src/main/java/PinDuties.java"));
        List<String> code = withoutComments(lines);
        signs(lines);
        words(code);
        library(code);
        names(code);
        methods(code);
        made(code);
        Check.end();
    }

    private static List<String> withoutComments(List<String> lines) {
        List<String> code = new ArrayList<>();
        boolean inside = false;
        for (String line : lines) {
            String trimmed = line.trim();
            inside |= trimmed.startsWith("/*");
            code.add(inside || trimmed.startsWith("//") ? "" : line.replaceAll("//.*", ""));
            inside &= !trimmed.endsWith("*/");
        }
        return code;
    }

    private static void signs(List<String> lines) {
        for (String line : lines) {
            Check.due("signs of the source: " + line, line.chars().filter(c -> c > 126 || c < 32).count(), 0);
        }
    }

    private static void hasNone(List<String> code, String pattern) {
        Pattern p = Pattern.compile(pattern);
        for (int i = 0; i < code.size(); i++) {
            if (p.matcher(code.get(i)).find()) {
                Check.due("line " + (i + 1) + " has " + pattern + " (0: not)", 1, 0);
            }
        }
        Check.due("looked for " + pattern, 0, 0);
    }

    // Rules 2, 3, 6, 13.
    private static void words(List<String> code) {
        hasNone(code, "\\b(throw|throws|try|catch|finally|synchronized|assert|volatile|transient|native)\\b");
        hasNone(code, "->|::|@\\w+|\\bvar\\b|\\byield\\b");
        hasNone(code, "\\b(package|import|protected|interface|extends|implements)\\b");
        hasNone(code, "\\b(double|float|Object|HashMap|Map|Set|Random|Thread|File)\\b");
        hasNone(code, "\\b(equals|hashCode|toString|getClass|nanoTime|currentTimeMillis)\\b");
        hasNone(code, "\\bstatic (?!final)[\\w\\[\\]]+ \\w+( =|;)");
        hasNone(code, "\\bstatic \\{");
    }

    // Rule 4: of the library nothing but these.
    private static void library(List<String> code) {
        Pattern p = Pattern.compile("\\b(Math|Integer|Long|System|Arrays|String|StringBuilder|List|ArrayList)\\.(\\w+)");
        Set<String> used = new TreeSet<>();
        for (String line : code) {
            Matcher m = p.matcher(line);
            while (m.find()) {
                used.add(m.group());
            }
        }
        Set<String> allowed = Set.of("Math.abs", "Math.max", "Math.min", "Integer.bitCount", "System.arraycopy");
        Check.due("of the library: " + used, allowed.containsAll(used) ? 1 : 0, 1);
    }

    // Rule 1: no private method, nor one of a class inside, bears the name of a public one.
    private static void names(List<String> code) {
        Set<String> open = new TreeSet<>();
        List<String> others = new ArrayList<>();
        Pattern p = Pattern.compile(METHOD);
        for (String line : code) {
            Matcher m = p.matcher(line);
            if (m.find()) {
                if (line.trim().startsWith("public ")) {
                    open.add(m.group(3));
                } else {
                    others.add(m.group(3));
                }
            }
        }
        Check.due("public methods", open.size(), 41);
        for (String name : others) {
            Check.due(name + " is the name of a public method", open.contains(name) ? 1 : 0, 0);
        }
    }

    // Rule 11: how long a method is, how many parameters it takes.
    private static void methods(List<String> code) {
        Pattern p = Pattern.compile(METHOD);
        String name = "";
        int from = 0;
        for (int i = 0; i < code.size(); i++) {
            Matcher m = p.matcher(code.get(i));
            if (m.find()) {
                name = m.group(3);
                from = i;
                Check.due(name + " has at most seven parameters", m.group(4).split(",").length > 7 ? 1 : 0, 0);
            } else if (code.get(i).matches(" {4,8}\\}") && !name.isEmpty()) {
                Check.due(name + " has at most sixty lines", i - from > 60 ? 1 : 0, 0);
                name = "";
            }
        }
        int classes = 0;
        for (String line : code) {
            classes += line.matches(".*\\bclass \\w+ \\{") ? 1 : 0;
        }
        Check.due("at most twelve classes", classes > 12 ? 1 : 0, 0);
    }

    // The room: objects are made for fields and in the outer constructor alone, so no call makes any.
    private static void made(List<String> code) {
        int made = 0;
        for (String line : code) {
            if (line.contains("new ")) {
                made++;
                boolean field = line.matches(" {4,8}(private )?final .*= new \\w+(\\[\\w+\\]|\\(\\));");
                boolean constructor = line.matches(" {12}(rows|texts|kept)\\[\\w\\] = new \\w+\\(\\);");
                Check.due("made by a field or the constructor: " + line, field || constructor ? 1 : 0, 1);
            }
        }
        Check.due("lines that make something", made > 0 ? 1 : 0, 1);
    }
}
