import java.io.IOException;
import java.lang.reflect.Method;
import java.lang.reflect.Modifier;
import java.net.URL;
import java.net.URLClassLoader;
import java.nio.file.Files;
import java.nio.file.Path;
import java.util.ArrayList;
import java.util.List;
import java.util.TreeSet;
import java.util.regex.Matcher;
import java.util.regex.Pattern;
import javax.tools.JavaCompiler;
import javax.tools.ToolProvider;

/** What README.md shows of the use of the class is what the class answers, and its table names every call. */
public final class ReadmeTest extends Check {
    private static final Pattern STATEMENT = Pattern.compile("(int \\w+ = )?(board\\.\\w+\\(.*\\));\\s+// (.*)");
    private static final Pattern ROW = Pattern.compile("(?m)^\\|.*`.*\\|$");
    private static final Pattern NAME = Pattern.compile("`(\\w+)`");
    private static final String NEW_PAGE = "Statusboard board = new Statusboard();";

    private static List<String> example(String readme) {
        List<String> lines = new ArrayList<>();
        Matcher block = Pattern.compile("(?s)```java\n(.*?)```").matcher(readme);
        while (block.find()) {
            for (String line : block.group(1).split("\n")) {
                if (!line.isBlank()) {
                    lines.add(line.strip());
                }
            }
        }
        return lines;
    }

    /** A class whose method tells, line by line, what the example answered and what README.md says. */
    private static String program(List<String> lines) {
        StringBuilder text = new StringBuilder("import java.util.*; public class Example { public static List<Object[]> run() {");
        text.append("List<Object[]> rows = new ArrayList<>();\n");
        for (String line : lines) {
            text.append(line.equals(NEW_PAGE) ? line : statements(line)).append('\n');
        }
        return text.append("return rows; } }").toString();
    }

    private static String statements(String line) {
        Matcher parts = STATEMENT.matcher(line);
        if (!parts.matches()) {
            same("README.md tells the answer in \"" + line + "\"", false, true);
            return "";
        }
        String due = parts.group(3).split(": ")[0];
        String call = parts.group(2);
        if (due.startsWith("throws ")) {
            String name = '"' + due.substring(7) + '"';
            return "try { " + row("\"the answer \" + " + call, name) + " } catch (RuntimeException e) { " + row("e.getClass().getSimpleName()", name) + " }";
        }
        if (parts.group(1) == null) {
            return row(call, due);
        }
        String variable = parts.group(1).split(" ")[1];
        return parts.group(1) + call + "; " + row(variable, due);
    }

    private static String row(String got, String due) {
        return "rows.add(new Object[] {" + got + ", " + due + "});";
    }

    private static List<?> run(String program) throws Exception {
        JavaCompiler compiler = ToolProvider.getSystemJavaCompiler();
        Path directory = Files.createTempDirectory("readme");
        Path source = directory.resolve("Example.java");
        try {
            Files.writeString(source, program);
            int code = compiler.run(null, null, null, "-cp", System.getProperty("java.class.path"), "-d", directory.toString(), source.toString());
            same("README.md's example compiles", code, 0);
            try (URLClassLoader loader = new URLClassLoader(new URL[] {directory.toUri().toURL()})) {
                return code != 0 ? List.of() : (List<?>) loader.loadClass("Example").getMethod("run").invoke(null);
            }
        } finally {
            clear(directory);
        }
    }

    private static void clear(Path directory) throws IOException {
        for (String name : new String[] {"Example.java", "Example.class"}) {
            Files.deleteIfExists(directory.resolve(name));
        }
        Files.delete(directory);
    }

    private static void exampleAnswers(String readme) throws Exception {
        List<String> lines = example(readme);
        List<?> rows = run(program(lines));
        lines.remove(NEW_PAGE);
        same("README.md begins with a new page, and calls it then", rows.size(), lines.size());
        same("README.md shows calls", rows.size() >= 20, true);
        for (int i = 0; i < rows.size(); i++) {
            Object[] row = (Object[]) rows.get(i);
            same("README.md's " + lines.get(i) + ":", row[0], row[1]);
        }
    }

    private static void callsNamed(String readme) {
        List<String> named = new ArrayList<>();
        Matcher row = ROW.matcher(readme);
        while (row.find()) {
            Matcher name = NAME.matcher(row.group());
            while (name.find()) {
                named.add(name.group(1));
            }
        }
        TreeSet<String> due = new TreeSet<>();
        for (Method method : Statusboard.class.getDeclaredMethods()) {
            if (Modifier.isPublic(method.getModifiers())) {
                due.add(method.getName());
            }
        }
        same("the calls in README.md's table", new TreeSet<>(named), due);
        same("each call stands there once", named.size(), due.size());
    }

    private static void columns(String readme) {
        Matcher row = ROW.matcher(readme);
        while (row.find()) {
            String[] cells = row.group().split("\\|", -1);
            same("the cells of " + row.group(), cells.length, 5);
            for (int cell = 2; cell < Math.min(cells.length, 4); cell++) {
                Matcher name = NAME.matcher(cells[cell]);
                while (name.find()) {
                    same("README.md says that " + name.group(1) + " changes the page", cell == 2, new Call(name.group(1)).isChanging());
                }
            }
        }
    }

    private static void howToTest(String readme) {
        same("README.md names the script", readme.contains("\n    .ci/run\n"), true);
        same("the script can be run", Files.isExecutable(Path.of(".ci/run")), true);
    }

    public static void main(String[] args) throws Exception {
        String readme = Files.readString(Path.of("README.md"));
        exampleAnswers(readme);
        callsNamed(readme);
        columns(readme);
        howToTest(readme);
        end("ReadmeTest");
    }
}
