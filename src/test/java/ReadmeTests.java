import java.io.IOException;
import java.lang.reflect.InvocationTargetException;
import java.lang.reflect.Method;
import java.nio.file.Files;
import java.nio.file.Path;
import java.util.ArrayList;
import java.util.List;
import java.util.regex.Matcher;
import java.util.regex.Pattern;

/** The calls that README.md shows: each must answer what is written behind it. */
final class ReadmeTests {
    private static final Pattern CALL =
        Pattern.compile("x\\.(\\w+)\\((.*)\\); +// ('.'|throws \\w+|-?\\w+)(?:: .*)?");
    private static final Pattern TOLD_TEXT = Pattern.compile("// \\d+: (?:.*, )?\"([^\"]*)\"");

    private final Report report;
    private ExactlySaid x;
    private int calls;

    private ReadmeTests(Report report) {
        this.report = report;
    }

    static void runAll(Report report, Path readme) throws IOException {
        ReadmeTests tests = new ReadmeTests(report);
        for (String line : Files.readAllLines(readme)) {
            if (line.equals("ExactlySaid x = new ExactlySaid();")) {
                tests.x = new ExactlySaid();
            } else if (line.startsWith("x.")) {
                tests.call(line);
            }
        }
        report.check("README.md shows calls", tests.calls > 30, true);
    }

    private void call(String line) {
        Matcher m = CALL.matcher(line);
        if (x == null || !m.matches()) {
            report.check("README.md, a call with its answer", line, "x.call(..);  // its answer");
            return;
        }
        calls++;
        report.check("README.md: " + line, answer(m.group(1), valuesOf(m.group(2))), m.group(3));
        Matcher text = TOLD_TEXT.matcher(line);
        if (text.find()) {
            report.check("README.md, the text of " + line,
                m.group(1).equals("append") ? textOf(valuesOf(m.group(2))) : written(), text.group(1));
        }
    }

    private static List<Object> valuesOf(String list) {
        List<Object> values = new ArrayList<>();
        for (String value : list.isEmpty() ? new String[0] : list.split(", ")) {
            values.add(value.equals("true") || value.equals("false") ? (Object) Boolean.valueOf(value)
                : Integer.valueOf((int) (long) Long.decode(value)));
        }
        return values;
    }

    private String answer(String name, List<Object> values) {
        try {
            for (Method method : ExactlySaid.class.getMethods()) {
                if (method.getName().equals(name) && method.getParameterCount() == values.size()) {
                    Object gave = method.invoke(x, values.toArray());
                    return gave instanceof Character ? "'" + gave + "'" : gave.toString();
                }
            }
            return "there is no such call";
        } catch (InvocationTargetException e) {
            return "throws " + e.getCause().getClass().getSimpleName();
        } catch (IllegalAccessException | IllegalArgumentException e) {
            return "cannot be called: " + e;
        }
    }

    /** What an append() lays onto the tape. */
    private static String textOf(List<Object> values) {
        StringBuilder text = new StringBuilder();
        for (Object value : values) {
            for (int shift = 24; shift >= 0; shift -= 8) {
                int next = (Integer) value >>> shift & 255;
                text.append(next == 0 ? "" : (char) next);
            }
        }
        return text.toString();
    }

    private String written() {
        StringBuilder text = new StringBuilder();
        Object sign = Talk.answer(() -> x.writtenAt(0));
        for (int i = 1; sign instanceof Character; i++) {
            text.append((char) sign);
            int at = i;
            sign = Talk.answer(() -> x.writtenAt(at));
        }
        return text.toString();
    }
}
