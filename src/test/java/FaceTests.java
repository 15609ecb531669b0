import java.io.IOException;
import java.lang.reflect.Constructor;
import java.lang.reflect.Field;
import java.lang.reflect.Method;
import java.lang.reflect.Modifier;
import java.nio.file.Files;
import java.nio.file.Path;
import java.util.ArrayList;
import java.util.HashSet;
import java.util.List;
import java.util.Set;
import java.util.TreeSet;
import java.util.regex.Matcher;
import java.util.regex.Pattern;

/** The public face, word for word as the document has it, and the rules of LANGUAGE.md that can be read off. */
final class FaceTests {
    private FaceTests() {
    }

    static void runAll(Report report, Path document, Path source) throws IOException {
        face(report, Files.readString(document));
        members(report);
        text(report, Files.readString(source));
    }

    private static void face(Report report, String document) {
        int begin = document.indexOf("public final class ExactlySaid {");
        String face = document.substring(begin, document.indexOf("```", begin));
        Set<String> due = new TreeSet<>();
        Matcher m = Pattern.compile("public (\\w+) (\\w+)\\(([^)]*)\\)( throws [\\w, ]+)?;").matcher(face);
        while (m.find()) {
            due.add(m.group(1) + " " + m.group(2) + "(" + m.group(3).replaceAll(" \\w+(,|$)", "$1") + ")"
                + (m.group(4) == null ? "" : m.group(4)));
        }
        Set<String> got = new TreeSet<>();
        for (Method method : ExactlySaid.class.getDeclaredMethods()) {
            if (!Modifier.isPrivate(method.getModifiers())) {
                got.add(signature(method));
            }
        }
        report.check("methods of the face", got, due);
        report.check("number of methods", got.size(), 48);
        report.check("final", Modifier.isFinal(ExactlySaid.class.getModifiers()), true);
        Constructor<?>[] constructors = ExactlySaid.class.getDeclaredConstructors();
        report.check("constructors", constructors.length + " " + constructors[0], "1 public ExactlySaid()");
    }

    private static String signature(Method method) {
        List<String> parameters = new ArrayList<>();
        for (Class<?> type : method.getParameterTypes()) {
            parameters.add(type.getSimpleName());
        }
        List<String> exceptions = new ArrayList<>();
        for (Class<?> type : method.getExceptionTypes()) {
            exceptions.add(type.getSimpleName());
        }
        return method.getReturnType().getSimpleName() + " " + method.getName() + "(" + String.join(", ", parameters)
            + ")" + (exceptions.isEmpty() ? "" : " throws " + String.join(", ", exceptions));
    }

    private static void members(Report report) {
        Set<String> publicNames = new HashSet<>();
        for (Method method : ExactlySaid.class.getMethods()) {
            publicNames.add(method.getName());
        }
        Set<String> wrong = new TreeSet<>();
        for (Field field : ExactlySaid.class.getDeclaredFields()) {
            if (!Modifier.isPrivate(field.getModifiers()) && !field.getName().equals("NONE")) {
                wrong.add("field " + field.getName());
            }
            if (Modifier.isStatic(field.getModifiers()) && !Modifier.isFinal(field.getModifiers())) {
                wrong.add("static " + field.getName());
            }
        }
        for (Class<?> inner : ExactlySaid.class.getDeclaredClasses()) {
            for (Method method : inner.getDeclaredMethods()) {
                if (publicNames.contains(method.getName())) {
                    wrong.add(inner.getSimpleName() + "." + method.getName());
                }
            }
            if (!Modifier.isPrivate(inner.getModifiers()) || !Modifier.isStatic(inner.getModifiers())) {
                wrong.add("class " + inner.getSimpleName());
            }
            if (inner.getDeclaredFields().length > 40) {
                wrong.add("fields of " + inner.getSimpleName());
            }
        }
        for (Method method : ExactlySaid.class.getDeclaredMethods()) {
            if (Modifier.isPrivate(method.getModifiers()) && publicNames.contains(method.getName())) {
                wrong.add("private " + method.getName());
            }
        }
        report.check("members", wrong, Set.of());
        report.check("classes", ExactlySaid.class.getDeclaredClasses().length <= 12, true);
    }

    private static void text(Report report, String source) {
        for (String none : new String[] {"->", "::", "finally", "synchronized", "assert ", "catch", "BigInteger",
            "getMessage", "Thread", "String.format", "Exact(", "Math.random", "System."}) {
            report.check("source without " + none, source.contains(none), false);
        }
        report.check("imports", source.lines().filter(l -> l.startsWith("import ")).toList(),
            List.of("import java.util.Arrays;", "import java.util.NoSuchElementException;"));
        report.check("signs of the source", source.chars().allMatch(c -> c == '\n' || c >= 32 && c < 127), true);
        int longest = 0;
        int since = -1;
        int number = 0;
        for (String line : source.lines().toList()) {
            number++;
            if (line.matches(" {4,8}(private|public) .*\\(.*\\{")) {
                since = number;
            }
            if (since >= 0 && line.matches(" {4,8}\\}")) {
                longest = Math.max(longest, number - since);
                since = -1;
            }
        }
        report.check("longest method of at most 60 lines", longest <= 60, true);
    }
}
