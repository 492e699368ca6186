import java.lang.reflect.Field;
import java.lang.reflect.Method;
import java.lang.reflect.Modifier;
import java.nio.file.Files;
import java.nio.file.Path;
import java.util.ArrayList;
import java.util.List;
import java.util.Set;
import java.util.TreeSet;
import java.util.regex.Matcher;
import java.util.regex.Pattern;

/** The public face, line by line as the document lists it, and the rules of LANGUAGE.md that can be seen from the text. */
public final class FaceTest extends Check {
    private static String faceOf(Method method) {
        StringBuilder text = new StringBuilder("public ").append(method.getReturnType().getName()).append(' ').append(method.getName()).append('(');
        for (Class<?> type : method.getParameterTypes()) {
            text.append(type.getName()).append(' ');
        }
        text.append(")");
        for (Class<?> type : method.getExceptionTypes()) {
            text.append(' ').append(type.getSimpleName());
        }
        return text.toString();
    }

    private static String faceOf(String line) {
        Matcher parts = Pattern.compile("\\s*public (\\w+) (\\w+)\\(([^)]*)\\)(?: throws (.*))?;").matcher(line);
        if (!parts.matches()) {
            return "";
        }
        StringBuilder text = new StringBuilder("public ").append(parts.group(1)).append(' ').append(parts.group(2)).append('(');
        for (String parameter : parts.group(3).split(", ")) {
            text.append(parameter.isEmpty() ? "" : parameter.split(" ")[0] + " ");
        }
        text.append(")");
        if (parts.group(4) != null) {
            text.append(' ').append(parts.group(4).replace(",", ""));
        }
        return text.toString();
    }

    private static void face() throws Exception {
        Set<String> due = new TreeSet<>();
        for (String line : Files.readAllLines(Path.of("../shared/DOC.md"))) {
            if (line.startsWith("    public ") && !faceOf(line).isEmpty()) {
                due.add(faceOf(line));
            }
        }
        Set<String> got = new TreeSet<>();
        Set<String> open = new TreeSet<>();
        for (Method method : Statusboard.class.getDeclaredMethods()) {
            if (Modifier.isPublic(method.getModifiers())) {
                got.add(faceOf(method));
                open.add(method.getName());
            }
        }
        same("the number of public methods", got.size(), 47);
        same("the public methods", got, due);
        same("the public constructors", Statusboard.class.getConstructors().length, 1);
        same("the constructors", Statusboard.class.getDeclaredConstructors().length, 1);
        same("the class is public and final", Statusboard.class.getModifiers(), Modifier.PUBLIC | Modifier.FINAL);
        hidden(open);
    }

    private static void hidden(Set<String> open) {
        List<Class<?>> all = new ArrayList<>(List.of(Statusboard.class.getDeclaredClasses()));
        for (Class<?> inner : all) {
            same(inner + " is static", Modifier.isStatic(inner.getModifiers()), true);
            same(inner + " is no part of the face", (inner.getModifiers() & (Modifier.PUBLIC | Modifier.PROTECTED)) == 0, true);
        }
        all.add(Statusboard.class);
        same("at most twelve classes", all.size() <= 12, true);
        for (Class<?> type : all) {
            for (Method method : type.getDeclaredMethods()) {
                boolean outer = type == Statusboard.class && Modifier.isPublic(method.getModifiers());
                same(method + " bears no public name", outer || !open.contains(method.getName()), true);
                same(method + " is private", outer || type != Statusboard.class || Modifier.isPrivate(method.getModifiers()), true);
                same(method + " has few parameters", method.getParameterCount() <= 7, true);
            }
            int fields = 0;
            for (Field field : type.getDeclaredFields()) {
                int modifiers = field.getModifiers();
                fields += Modifier.isStatic(modifiers) ? 0 : 1;
                same(field + " is final if static", Modifier.isFinal(modifiers) || !Modifier.isStatic(modifiers), true);
                same(field + " is private", type != Statusboard.class || Modifier.isPrivate(modifiers), true);
            }
            same(type + " has few fields", fields <= 20, true);
        }
    }

    private static void words() throws Exception {
        List<String> lines = Files.readAllLines(Path.of("src/main/java/Statusboard.java"));
        Pattern ruledOut = Pattern.compile("\\b(finally|synchronized|assert|package|System\\.out|Exact|Random|Thread|while \\(true\\)|lambda)\\b|->|::|for \\(;;\\)");
        Set<String> imports = new TreeSet<>();
        for (int i = 0; i < lines.size(); i++) {
            String line = lines.get(i);
            String code = line.replaceAll("//.*|/\\*\\*.*", "");
            same("line " + (i + 1) + " holds no word that is ruled out", ruledOut.matcher(code).find(), false);
            same("line " + (i + 1) + " holds plain signs", line.chars().allMatch(sign -> sign >= 32 && sign < 127), true);
            if (line.startsWith("import ")) {
                imports.add(line);
            }
        }
        same("the imports", imports, new TreeSet<>(List.of("import java.util.Arrays;", "import java.util.NoSuchElementException;")));
    }

    private static void lengths() throws Exception {
        List<String> lines = Files.readAllLines(Path.of("src/main/java/Statusboard.java"));
        Pattern head = Pattern.compile("( {4}| {8})(?=\\S)(?!if|for|switch|while|\\})[^=;]*\\) [^=;]*\\{");
        int methods = 0;
        for (int i = 0; i < lines.size(); i++) {
            Matcher found = head.matcher(lines.get(i));
            if (found.matches()) {
                int length = lines.subList(i, lines.size()).indexOf(found.group(1) + "}") + 1;
                same("line " + (i + 1) + " begins a short method", length > 1 && length <= 60, true);
                methods++;
            }
        }
        same("methods are found", methods > 60, true);
    }

    public static void main(String[] args) throws Exception {
        face();
        words();
        lengths();
        end("FaceTest");
    }
}
