import java.lang.reflect.InvocationTargetException;
import java.lang.reflect.Method;
import java.util.ArrayList;
import java.util.Arrays;
import java.util.HashMap;
import java.util.List;
import java.util.Map;
import java.util.Random;

/** Random runs of calls, always the same ones, on ExactlySaid and on Model: every answer must be the same. */
final class ModelTests {
    private static final String[] KNOWN =
        {"gcd", "lcm", "floor", "ceil", "near", "abs", "med", "num", "den", "min", "max"};
    private static final int[] KNOWN_VALUES = {2, 2, 1, 1, 1, 1, 2, 1, 1, 2, 2};
    private static final int MOST_CALLS = 512;
    private static final Map<String, Method> REAL = methodsOf(ExactlySaid.class);
    private static final Map<String, Method> MODEL = methodsOf(Model.class);

    private final Random random;
    private final ExactlySaid real = new ExactlySaid();
    private final Model model = new Model();
    private final List<String> log = new ArrayList<>();
    private final String[] names;
    private final String[] functions;
    private final int[] arities;
    private final boolean isWide;
    private final boolean isGreat;
    private final boolean isHeavy;
    private String difference;
    /** How often each cause of a refusal, and each answer of a text, was met. */
    private final Map<String, Integer> met;

    private ModelTests(long seed, Map<String, Integer> met) {
        // runs of neighbouring seeds would begin alike
        random = new Random(seed * 0x9E3779B97F4A7C15L);
        this.met = met;
        isWide = random.nextInt(4) == 0;
        names = words(isWide ? 24 : 2 + random.nextInt(6));
        functions = words(isWide ? 13 : 1 + random.nextInt(5));
        arities = new int[functions.length];
        for (int i = 0; i < arities.length; i++) {
            arities[i] = 1 + random.nextInt(random.nextInt(3) == 0 ? 4 : 2);
        }
        isGreat = random.nextInt(3) == 0;
        isHeavy = random.nextInt(3) == 0;
    }

    static void runAll(Report report, int runs, long firstSeed) {
        Map<String, Integer> met = new HashMap<>();
        for (int i = 0; i < runs; i++) {
            ModelTests test = new ModelTests(firstSeed + i, met);
            test.run();
            report.check("random run " + (firstSeed + i), test.difference == null ? "as the model" : test.difference,
                "as the model");
        }
        for (String what : List.of("1", "2", "3", "4", "5", "6", "7", "8", "9", "sum", "name", "function", "error")) {
            report.check("random runs meet " + what, met.getOrDefault(what, 0) > 0, true);
        }
        if (Boolean.getBoolean("told")) {
            System.out.println(new java.util.TreeMap<>(met));
        }
    }

    /** For long hunts by hand: the number of runs, the first seed. */
    public static void main(String[] args) {
        Report report = new Report();
        runAll(report, Integer.parseInt(args[0]), Long.parseLong(args[1]));
        report.close();
    }

    private static Map<String, Method> methodsOf(Class<?> type) {
        Map<String, Method> all = new HashMap<>();
        for (Method m : type.getDeclaredMethods()) {
            if (java.lang.reflect.Modifier.isPublic(m.getModifiers())) {
                all.put(m.getName(), m);
            }
        }
        return all;
    }

    private String[] words(int count) {
        String[] all = new String[count];
        java.util.Set<String> seen = new java.util.HashSet<>();
        for (int i = 0; i < count; i += seen.add(all[i]) ? 1 : 0) {
            int length = random.nextInt(5) == 0 ? 1 + random.nextInt(6) : 1 + random.nextInt(2);
            StringBuilder word = new StringBuilder();
            for (int k = 0; k < length; k++) {
                word.append((char) ('a' + random.nextInt(random.nextInt(4) == 0 ? 26 : 5)));
            }
            all[i] = random.nextInt(60) == 0 ? KNOWN[random.nextInt(KNOWN.length)] : word.toString();
        }
        return all;
    }

    // ---- calls

    private static Object answer(Map<String, Method> methods, Object of, String name, Object[] args) {
        try {
            return methods.get(name).invoke(of, args);
        } catch (InvocationTargetException e) {
            return "throws " + e.getCause().getClass().getSimpleName();
        } catch (ReflectiveOperationException e) {
            return "cannot be called: " + e;
        }
    }

    private Object call(String name, Object... args) {
        if (difference != null || log.size() >= MOST_CALLS) {
            return null;
        }
        Object due = answer(MODEL, model, name, args);
        Object got = answer(REAL, real, name, args);
        log.add(name + Arrays.toString(args) + " -> " + due);
        if (!due.equals(got)) {
            difference = "answered " + got + ", due is " + due + " behind\n  " + String.join("\n  ", log);
        }
        return due;
    }

    private void meet(String what) {
        met.merge(what, 1, Integer::sum);
    }

    private void say(String text) {
        int at = 0;
        while (at < text.length()) {
            int[] parts = new int[5];
            for (int i = 0; i < 20 && at < text.length(); i++) {
                if (random.nextInt(40) != 0) {
                    parts[i / 4] |= (text.charAt(at) & 0xff) << 24 - i % 4 * 8;
                    at++;
                }
            }
            call("append", parts[0], parts[1], parts[2], parts[3], parts[4]);
        }
        if (log.size() < MOST_CALLS) {
            log.add("  " + text.replace("\n", "\\n"));
        }
        Object gave = call("run");
        if (gave == null) {
            return;
        }
        if (gave.equals("throws IllegalArgumentException")) {
            meet("error");
            call("errorPosition");
        } else if (gave.equals("throws ArithmeticException")) {
            meet(String.valueOf(call("refused", 0)));
            call("refused", 1);
            call("failed");
            Object ring = call("ring");
            for (int i = 0; ring instanceof Integer && i < (Integer) ring; i++) {
                call("ringAt", i);
            }
        } else {
            meet(gave.equals(0) ? "sum" : gave.equals(1) ? "name" : "function");
            call("write", false);
            spell();
        }
    }

    private void spell() {
        Object digits = call("digits", false);
        for (int i = 0; digits instanceof Integer && i < Math.min(3, (Integer) digits); i++) {
            call("digit", false, i);
        }
        if (random.nextInt(3) == 0) {
            Object length = call("write", random.nextBoolean());
            if (length instanceof Integer && (Integer) length > 0) {
                call("writtenAt", random.nextInt((Integer) length));
                call("writtenAt", (Integer) length - 1);
                call("writtenAt", random.nextInt((Integer) length + 2) - 1);
            }
        }
    }

    private void run() {
        for (int i = 0; i < MOST_CALLS && difference == null && log.size() < MOST_CALLS; i++) {
            int kind = random.nextInt(100);
            if (kind < (isWide ? 60 : 38)) {
                say(line());
            } else if (kind < 50) {
                askWords();
            } else if (kind < 60) {
                askSteps();
            } else if (kind < 72) {
                askDecimals();
            } else if (kind < 84) {
                askRows();
            } else if (kind < 92) {
                if (random.nextInt(3) == 0) {
                    call(random.nextInt(3) == 0 ? "redo" : "undo");
                }
                if (random.nextInt(4) == 0) {
                    call("redo");
                }
            } else {
                askRest();
            }
        }
        call("errors");
    }

    private int word() {
        switch (random.nextInt(8)) {
            case 0:
                return random.nextInt(60) - 2;
            case 1:
                return Model.number(KNOWN[random.nextInt(KNOWN.length)]);
            case 2: case 3:
                return Model.number(functions[random.nextInt(functions.length)]);
            default:
                return Model.number(names[random.nextInt(names.length)]);
        }
    }

    /** Not of the functions known at first, which the document leaves open: whether a name uses them. */
    private int toldWord() {
        int word = word();
        for (String known : KNOWN) {
            if (Model.number(known) == word) {
                return 1;
            }
        }
        return word;
    }

    private void askWords() {
        call("names");
        call("functions");
        call("nameAt", random.nextInt(names.length + 2) - 1);
        call("takeName", word());
        call("parameters", word());
        call("uses", word(), random.nextBoolean(), toldWord(), random.nextBoolean());
        call("users", toldWord(), random.nextBoolean());
        call("meanDigits");
        if (random.nextInt(isWide ? 9 : 4) == 0) {
            call("drop", word(), random.nextBoolean());
        }
        call("digits", true);
        call("digits", false);
    }

    private void askSteps() {
        Object steps = call("steps");
        if (!(steps instanceof Integer)) {
            return;
        }
        for (int i = 0; i < Math.min(4, (Integer) steps); i++) {
            call("stepAt", i);
        }
        call("stepAt", (Integer) steps - 1);
        int step = random.nextInt((Integer) steps + 2) - 1;
        call("stepAt", step);
        call("takeStep", step);
        spell();
    }

    private void askDecimals() {
        call("ends");
        call("ahead");
        call("repeating");
        call("write", true);
        call("decimal", 1 + random.nextInt(random.nextBoolean() ? 12 : 1000));
        if (random.nextInt(6) == 0) {
            call("decimal", random.nextInt(1010) - 4);
        }
        Object length = call("continued");
        Object units = call("units");
        switch (random.nextInt(4)) {
            case 0:
                call("takeContinued", length instanceof Integer ? random.nextInt((Integer) length + 2) - 1 : 0);
                spell();
                break;
            case 1:
                call("takeBest", random.nextInt(5) == 0 ? random.nextInt(1010) - 4 : 1 + random.nextInt(60));
                spell();
                break;
            case 2:
                call("takeUnit", units instanceof Integer ? random.nextInt(Math.max(1, (Integer) units) + 2) - 1 : 0);
                spell();
                break;
            default:
        }
    }

    private int row() {
        return random.nextInt(30) == 0 ? random.nextInt(7) - 2 : random.nextInt(3);
    }

    private void askRows() {
        int row = row();
        switch (random.nextInt(9)) {
            case 0: case 1: case 2:
                call("put", row);
                break;
            case 3:
                for (int i = 0; i < 12; i++) {
                    call("put", row);
                    call("takeStep", random.nextInt(6));
                }
                break;
            case 4:
                call("out", row);
                break;
            case 5:
                if (random.nextInt(4) == 0) {
                    call("empty", row);
                }
                break;
            case 6:
                call("takeLeast", row, random.nextInt(8) - 1);
                break;
            case 7:
                call("takeNext", row);
                break;
            default:
                call("takeAll", row, random.nextInt(30) == 0 ? random.nextInt(5) - 1 : random.nextInt(3));
                spell();
        }
        call("count", row, random.nextBoolean());
        call("count", row, random.nextBoolean());
    }

    private void askRest() {
        int slot = random.nextInt(12) - 1;
        switch (random.nextInt(9)) {
            case 0: case 1: case 2:
                call("keep", random.nextInt(10));
                call("keep", slot);
                break;
            case 3:
                call("take", slot);
                break;
            case 4:
                call("compare", random.nextInt(12) - 1, slot);
                break;
            case 5:
                call("append", random.nextInt(), 0, random.nextInt(), random.nextInt(256), 0);
                call(random.nextBoolean() ? "clearTape" : "run");
                break;
            case 6:
                call("refused", random.nextInt(4) - 1);
                call("ringAt", random.nextInt(5) - 1);
                call("failed");
                call("errorPosition");
                break;
            case 7:
                call("digit", random.nextBoolean(), random.nextInt(33) - 1);
                call("sign");
                call("writtenAt", random.nextInt(70) - 1);
                break;
            default:
                call("errors");
                call("wholes");
        }
    }

    // ---- texts

    private String line() {
        String text;
        int kind = random.nextInt(10);
        if (isWide && random.nextInt(3) == 0) {
            String word = random.nextBoolean() ? names[random.nextInt(names.length)] : null;
            text = word != null ? word + "=" + leaf(new String[0])
                : functions[random.nextInt(functions.length)] + "(x)=" + leaf(new String[] {"x"});
        } else if (kind == 8) {
            text = toldOne(false) + "=" + (random.nextBoolean() ? random.nextInt(3) : number());
        } else if (kind == 9 && isHeavy) {
            String call = callingTold(1, new String[] {"x"});
            text = functions[random.nextInt(functions.length)] + "(x)=x" + ("+" + call).repeat(1 + random.nextInt(10));
        } else if (kind < 4) {
            text = names[random.nextInt(names.length)] + "=" + sum(2 + random.nextInt(2), new String[0]);
        } else if (kind < 7) {
            text = function();
        } else if (kind == 7 && random.nextInt(3) == 0) {
            text = deep();
        } else {
            text = sum(3, new String[0]);
        }
        if (random.nextInt(6) == 0) {
            text = spaced(text);
        }
        if (random.nextInt(8) == 0) {
            text = spoiled(text);
        }
        return text.length() > 200 ? text.substring(0, 200) : text;
    }

    private String function() {
        int f = random.nextInt(functions.length);
        int arity = random.nextInt(12) == 0 ? 1 + random.nextInt(4) : arities[f];
        String[] parameters = new String[arity];
        StringBuilder text = new StringBuilder(functions[f]).append('(');
        for (int i = 0; i < arity; i++) {
            parameters[i] = random.nextInt(12) == 0 ? names[random.nextInt(names.length)] : "" + (char) ('p' + i);
            text.append(i > 0 ? "," : "").append(parameters[i]);
        }
        if (random.nextInt(60) == 0) {
            text.append(",s,t");
        }
        return text.append(")=").append(sum(2 + random.nextInt(2), parameters)).toString();
    }

    private String number() {
        switch (random.nextInt(isGreat ? 12 : 8)) {
            case 0:
                return random.nextInt(40) + "." + random.nextInt(1000);
            case 1:
                return random.nextInt(4) + "." + (random.nextBoolean() ? "" : random.nextInt(100)) + "["
                    + random.nextInt(1000) + "]";
            case 2:
                return "" + random.nextInt(1000);
            case 8: case 9:
                return "" + (100000000000L + Math.floorMod(random.nextLong(), 900000000000L));
            case 10:
                return random.nextInt(1000) + ".[" + (100000 + random.nextInt(900000)) + "]";
            case 11:
                return "" + random.nextInt(2000000000);
            default:
                return "" + random.nextInt(10);
        }
    }

    private String sum(int depth, String[] parameters) {
        if (depth == 0) {
            return leaf(parameters);
        }
        switch (random.nextInt(isHeavy ? 17 : 15)) {
            case 0: case 1:
                return sum(depth - 1, parameters) + "+" + sum(depth - 1, parameters);
            case 2:
                return sum(depth - 1, parameters) + "-" + sum(depth - 1, parameters);
            case 3: case 4:
                return sum(depth - 1, parameters) + "*" + sum(depth - 1, parameters);
            case 5: case 6:
                return sum(depth - 1, parameters) + "/" + sum(depth - 1, parameters);
            case 7:
                return sum(depth - 1, parameters) + "%" + sum(depth - 1, parameters);
            case 8:
                return "(" + sum(depth - 1, parameters) + ")^" + exponent();
            case 9:
                return "-" + sum(depth - 1, parameters);
            case 10:
                return "(" + sum(depth - 1, parameters) + ")";
            case 11:
                return leaf(parameters) + (random.nextInt(3) == 0 ? "!" : "");
            case 12:
                int k = random.nextInt(KNOWN.length);
                return calling(KNOWN[k], KNOWN_VALUES[k], depth, parameters);
            case 15: case 16:
                String one = callingTold(1, parameters);
                return one + "+" + one + "-" + one + "+" + one;
            default:
                return callingTold(depth, parameters);
        }
    }

    private String exponent() {
        String[] all = {"2", "3", "0", "-1", "-2", "1", "9", "31", "100", "101", "-100", "-101", "(1/2)", "0.5"};
        return all[random.nextInt(random.nextInt(3) == 0 ? all.length : 5)];
    }

    private String calling(String word, int values, int depth, String[] parameters) {
        StringBuilder text = new StringBuilder(word).append('(');
        int count = random.nextInt(80) == 0 ? 1 + random.nextInt(5) : values;
        for (int i = 0; i < count; i++) {
            text.append(i > 0 ? "," : "").append(sum(random.nextInt(depth), parameters));
        }
        return text.append(')').toString();
    }

    private String leaf(String[] parameters) {
        int kind = random.nextInt(10);
        if (parameters.length > 0 && kind < 5) {
            return parameters[random.nextInt(parameters.length)];
        }
        if (kind < 8 && random.nextInt(15) > 0) {
            return kind < 5 || model.names() == 0 ? number() : toldOne(false);
        }
        return number();
    }

    /** A word that is told, mostly; any one if none is. */
    private String toldOne(boolean isFunction) {
        List<String> told = model.words(isFunction);
        String[] all = isFunction ? functions : names;
        return told.isEmpty() || random.nextInt(25) == 0 ? all[random.nextInt(all.length)]
            : told.get(random.nextInt(told.size()));
    }

    private String callingTold(int depth, String[] parameters) {
        String word = toldOne(true);
        int values = model.words(true).contains(word) ? model.parameters(Model.number(word)) : 1;
        return calling(word, values, depth, parameters);
    }

    private String deep() {
        StringBuilder text = new StringBuilder();
        StringBuilder behind = new StringBuilder();
        int depth = 10 + random.nextInt(5);
        for (int i = 0; i < depth; i++) {
            switch (random.nextInt(4)) {
                case 0:
                    text.append("-");
                    break;
                case 1:
                    text.append("1^");
                    break;
                case 2:
                    text.append("abs(");
                    behind.append(")");
                    break;
                default:
                    text.append("(");
                    behind.append(")");
            }
        }
        return text.append("1").append(behind).toString();
    }

    private String spaced(String text) {
        StringBuilder all = new StringBuilder();
        for (char c : text.toCharArray()) {
            boolean isWord = c >= 'a' && c <= 'z' || c >= '0' && c <= '9' || c == '.' || c == '[' || c == ']';
            if (!isWord || random.nextInt(30) == 0) {
                all.append(random.nextInt(3) == 0 ? "\n" : random.nextInt(3) == 0 ? "  " : "");
            }
            all.append(c);
        }
        return all.append(random.nextBoolean() ? " " : "").toString();
    }

    private String spoiled(String text) {
        StringBuilder all = new StringBuilder(text);
        String signs = "=(),+-*/%^!.[]0123456789abcz A~\t\u00e9\u00ff";
        int times = 1 + random.nextInt(2);
        for (int i = 0; i < times && all.length() > 0; i++) {
            int at = random.nextInt(all.length());
            char c = signs.charAt(random.nextInt(signs.length()));
            switch (random.nextInt(5)) {
                case 0:
                    all.deleteCharAt(at);
                    break;
                case 1: case 2:
                    all.insert(at, c);
                    break;
                case 3:
                    all.setCharAt(at, c);
                    break;
                default:
                    all.setLength(at);
            }
        }
        return all.toString();
    }
}
