import java.math.BigInteger;
import java.util.ArrayDeque;
import java.util.ArrayList;
import java.util.HashMap;
import java.util.LinkedHashSet;
import java.util.List;
import java.util.Map;
import java.util.NoSuchElementException;
import java.util.Set;
import java.util.TreeMap;
import java.util.regex.Matcher;
import java.util.regex.Pattern;

/** The document once more, with the Java library and as plainly as can be: what ModelTests holds ExactlySaid against. */
public final class Model {
    private static final BigInteger ZERO = BigInteger.ZERO;
    private static final BigInteger ONE = BigInteger.ONE;
    private static final BigInteger TEN = BigInteger.TEN;
    private static final BigInteger LIMIT = TEN.pow(30);
    private static final int NONE = -1;
    private static final List<String> KNOWN =
        List.of("gcd", "lcm", "floor", "ceil", "near", "abs", "med", "num", "den", "min", "max");
    private static final Set<String> OF_TWO = Set.of("gcd", "lcm", "med", "min", "max");

    // ---- values

    record Q(BigInteger n, BigInteger d) implements Comparable<Q> {
        static Q of(BigInteger n, BigInteger d) {
            if (d.signum() < 0) {
                n = n.negate();
                d = d.negate();
            }
            BigInteger g = n.gcd(d);
            return new Q(n.divide(g), d.divide(g));
        }

        static Q of(long n) {
            return new Q(BigInteger.valueOf(n), ONE);
        }

        Q plus(Q o) {
            return of(n.multiply(o.d).add(o.n.multiply(d)), d.multiply(o.d));
        }

        Q minus(Q o) {
            return plus(new Q(o.n.negate(), o.d));
        }

        Q times(Q o) {
            return of(n.multiply(o.n), d.multiply(o.d));
        }

        Q over(Q o) {
            return of(n.multiply(o.d), d.multiply(o.n));
        }

        BigInteger floor() {
            BigInteger[] both = n.divideAndRemainder(d);
            return both[1].signum() < 0 ? both[0].subtract(ONE) : both[0];
        }

        boolean whole() {
            return d.equals(ONE);
        }

        boolean fits() {
            return n.abs().compareTo(LIMIT) < 0 && d.compareTo(LIMIT) < 0;
        }

        int sign() {
            return n.signum();
        }

        @Override
        public int compareTo(Q o) {
            return n.multiply(o.d).compareTo(o.n.multiply(d));
        }
    }

    // ---- texts

    @SuppressWarnings("serial")
    static final class Wrong extends RuntimeException {
        final int at;

        Wrong(int at) {
            this.at = at;
        }
    }

    @SuppressWarnings("serial")
    static final class Refused extends RuntimeException {
        final int cause;
        final int place;

        Refused(int cause, int place) {
            this.cause = cause;
            this.place = place;
        }
    }

    record Token(String kind, String text, int at) {
    }

    /** kind: number, word (a name), parameter, call, or a sign; minus1 is the minus of one value. */
    record Node(String kind, String word, int at, List<Node> kids, Q value) {
    }

    static final class Line {
        int form;
        String word;
        int wordAt;
        List<String> parameters = new ArrayList<>();
        Node sum;
    }

    static final class Def {
        String word;
        boolean isFunction;
        List<String> parameters;
        Node sum;
        Q value;

        Def copy() {
            Def c = new Def();
            c.word = word;
            c.isFunction = isFunction;
            c.parameters = parameters;
            c.sum = sum;
            c.value = value;
            return c;
        }
    }

    private static final Pattern NUMBER = Pattern.compile("(\\d++)(\\.(\\d*+)(\\[(\\d*+)(\\])?)?)?");

    private List<Token> tokens;
    private int next;
    private Line line;

    private static List<Token> tokensOf(String text) {
        List<Token> all = new ArrayList<>();
        int at = 0;
        while (at < text.length()) {
            char c = text.charAt(at);
            if (c == ' ' || c == '\n') {
                at++;
                continue;
            }
            int end = at;
            if (c >= 'a' && c <= 'z') {
                while (end < text.length() && text.charAt(end) >= 'a' && text.charAt(end) <= 'z') {
                    end++;
                }
                all.add(new Token(end - at > 6 ? "bad" : "word", text.substring(at, end), at));
            } else if (c >= '0' && c <= '9') {
                Matcher m = NUMBER.matcher(text).region(at, text.length());
                m.lookingAt();
                boolean good = m.group(1).length() <= 12;
                if (m.group(2) != null) {
                    good &= m.group(3).length() <= 6 && (m.group(3).length() > 0 || m.group(4) != null);
                    if (m.group(4) != null) {
                        good &= m.group(5).length() >= 1 && m.group(5).length() <= 6 && m.group(6) != null;
                    }
                }
                end = m.end();
                all.add(new Token(good ? "number" : "bad", text.substring(at, end), at));
            } else if ("=(),+-*/%^!".indexOf(c) >= 0) {
                end = at + 1;
                all.add(new Token("" + c, "" + c, at));
            } else {
                all.add(new Token("bad", "", at));
                end = at + 1;
            }
            if (all.get(all.size() - 1).kind.equals("bad")) {
                break;
            }
            at = end;
        }
        all.add(new Token("end", "", text.length()));
        return all;
    }

    private static Q numberOf(String text) {
        int point = text.indexOf('.');
        if (point < 0) {
            return new Q(new BigInteger(text), ONE);
        }
        int open = text.indexOf('[');
        String behind = open < 0 ? text.substring(point + 1) : text.substring(point + 1, open);
        Q value = Q.of(new BigInteger(text.substring(0, point)), ONE);
        if (!behind.isEmpty()) {
            value = value.plus(Q.of(new BigInteger(behind), TEN.pow(behind.length())));
        }
        if (open >= 0) {
            String again = text.substring(open + 1, text.length() - 1);
            BigInteger nines = TEN.pow(again.length()).subtract(ONE);
            value = value.plus(Q.of(new BigInteger(again), nines.multiply(TEN.pow(behind.length()))));
        }
        return value;
    }

    private boolean is(String kind) {
        return tokens.get(next).kind.equals(kind);
    }

    private Wrong wrong() {
        return new Wrong(tokens.get(next).at);
    }

    private Token take() {
        return tokens.get(next++);
    }

    private void expect(String kind) {
        if (!is(kind)) {
            throw wrong();
        }
        next++;
    }

    private Line read(String text) {
        tokens = tokensOf(text);
        next = 0;
        line = new Line();
        StringBuilder kinds = new StringBuilder();
        for (Token t : tokens) {
            kinds.append(t.kind.equals("word") ? "w" : t.kind.equals("number") ? "n" : t.kind.equals("end") ? "$"
                : t.kind.equals("bad") ? "?" : t.kind);
        }
        if (kinds.toString().startsWith("w=")) {
            line.form = 1;
        } else if (kinds.toString().matches("w\\(w(,w)*\\)=.*")) {
            line.form = 2;
        }
        if (line.form > 0) {
            line.word = tokens.get(0).text;
            line.wordAt = tokens.get(0).at;
            next = 1;
            if (line.form == 2) {
                do {
                    next++;
                    if (line.parameters.size() == 4 || line.parameters.contains(tokens.get(next).text)) {
                        throw wrong();
                    }
                    line.parameters.add(take().text);
                } while (is(","));
                expect(")");
            }
            expect("=");
        }
        line.sum = sum(0);
        if (!is("end")) {
            throw wrong();
        }
        return line;
    }

    private Node sum(int open) {
        Node left = product(open);
        while (is("+") || is("-")) {
            Token sign = take();
            left = new Node(sign.kind, null, sign.at, List.of(left, product(open)), null);
        }
        return left;
    }

    private Node product(int open) {
        Node left = minus(open);
        while (is("*") || is("/") || is("%")) {
            Token sign = take();
            left = new Node(sign.kind, null, sign.at, List.of(left, minus(open)), null);
        }
        return left;
    }

    private Node minus(int open) {
        if (!is("-")) {
            return power(open);
        }
        if (open == 12) {
            throw wrong();
        }
        Token sign = take();
        return new Node("minus1", null, sign.at, List.of(minus(open + 1)), null);
    }

    private Node power(int open) {
        Node base = plain(open);
        while (is("!")) {
            base = new Node("!", null, take().at, List.of(base), null);
        }
        if (!is("^")) {
            return base;
        }
        if (open == 12) {
            throw wrong();
        }
        Token sign = take();
        return new Node("^", null, sign.at, List.of(base, minus(open + 1)), null);
    }

    private Node plain(int open) {
        if (is("number")) {
            Token t = take();
            return new Node("number", null, t.at, List.of(), numberOf(t.text));
        }
        if (is("word")) {
            Token t = take();
            if (!is("(")) {
                boolean isParameter = line.parameters.contains(t.text);
                return new Node(isParameter ? "parameter" : "word", t.text, t.at, List.of(), null);
            }
            if (open == 12) {
                throw wrong();
            }
            List<Node> kids = new ArrayList<>();
            do {
                next++;
                kids.add(sum(open + 1));
            } while (is(","));
            expect(")");
            return new Node("call", t.text, t.at, kids, null);
        }
        if (!is("(") || open == 12) {
            throw wrong();
        }
        next++;
        Node inner = sum(open + 1);
        expect(")");
        return inner;
    }

    // ---- what is kept

    private TreeMap<String, Def> names = new TreeMap<>();
    private TreeMap<String, Def> functions = new TreeMap<>();
    private List<List<Q>> rows = List.of(List.of(), List.of(), List.of());

    record Snapshot(TreeMap<String, Def> names, TreeMap<String, Def> functions, List<List<Q>> rows) {
    }

    private final ArrayDeque<Snapshot> past = new ArrayDeque<>();
    private final ArrayDeque<Snapshot> future = new ArrayDeque<>();

    private final StringBuilder tape = new StringBuilder();
    private int errorAt = NONE;
    private int cause = NONE;
    private int place = NONE;
    private int failedWord = NONE;
    private List<Integer> ringWords = List.of();
    private Q answer = Q.of(0);
    private final Q[] slots = new Q[10];
    private String written = "";
    private List<String> stepKinds = new ArrayList<>();
    private List<Q> stepValues = new ArrayList<>();

    public Model() {
        for (int i = 0; i < 10; i++) {
            slots[i] = Q.of(0);
        }
    }

    private Snapshot snapshot() {
        return new Snapshot(names, functions, rows);
    }

    private void back(Snapshot s) {
        names = s.names;
        functions = s.functions;
        rows = s.rows;
    }

    private void changed(Snapshot before) {
        past.addLast(before);
        if (past.size() > 20) {
            past.removeFirst();
        }
        future.clear();
    }

    static int number(String word) {
        int n = 0;
        for (char c : word.toCharArray()) {
            n = n * 27 + c - 'a' + 1;
        }
        return n;
    }

    private static Def find(int word, boolean isFunction, Map<String, Def> names, Map<String, Def> functions) {
        for (Def d : (isFunction ? functions : names).values()) {
            if (number(d.word) == word) {
                return d;
            }
        }
        return null;
    }

    private Def find(int word, boolean isFunction) {
        return find(word, isFunction, names, functions);
    }

    /** The words that are told now, for those who make texts. */
    List<String> words(boolean isFunction) {
        return new ArrayList<>((isFunction ? functions : names).keySet());
    }

    // ---- tape

    public int append(int a, int b, int c, int d, int e) {
        StringBuilder more = new StringBuilder();
        for (int word : new int[] {a, b, c, d, e}) {
            for (int k = 3; k >= 0; k--) {
                int value = word >> 8 * k & 0xff;
                if (value != 0) {
                    more.append((char) value);
                }
            }
        }
        if (tape.length() + more.length() > 200) {
            throw new IllegalStateException();
        }
        tape.append(more);
        return tape.length();
    }

    public int clearTape() {
        int n = tape.length();
        tape.setLength(0);
        return n;
    }

    public int run() {
        String text = tape.toString();
        tape.setLength(0);
        errorAt = NONE;
        Line said;
        try {
            said = read(text);
        } catch (Wrong w) {
            errorAt = w.at;
            throw new IllegalArgumentException();
        }
        failing = NONE;
        ringing = List.of();
        try {
            carryOut(said);
        } catch (Refused r) {
            cause = r.cause;
            place = r.place;
            failedWord = failing;
            ringWords = ringing;
            throw new ArithmeticException();
        }
        return said.form;
    }

    private int failing;
    private List<Integer> ringing;

    private void carryOut(Line said) {
        int unknown = unknownIn(said.sum);
        if (unknown != Integer.MAX_VALUE) {
            throw new Refused(1, unknown);
        }
        if (said.form > 0) {
            askAhead(said);
        }
        Worker worker = new Worker(names, functions);
        Q value = said.form == 2 ? null : worker.work(said.sum, null);
        if (said.form > 0) {
            Snapshot before = snapshot();
            TreeMap<String, Def> newNames = new TreeMap<>(names);
            TreeMap<String, Def> newFunctions = new TreeMap<>(functions);
            Def def = defOf(said);
            def.value = value;
            (def.isFunction ? newFunctions : newNames).put(def.word, def);
            workAnew(def, newNames, newFunctions);
            names = newNames;
            functions = newFunctions;
            changed(before);
        }
        if (said.form != 2) {
            answer = value;
            stepKinds = worker.kinds;
            stepValues = worker.values;
        }
    }

    private static Def defOf(Line said) {
        Def def = new Def();
        def.word = said.word;
        def.isFunction = said.form == 2;
        def.parameters = said.parameters;
        def.sum = said.sum;
        return def;
    }

    private int unknownIn(Node node) {
        int least = Integer.MAX_VALUE;
        if (node.kind.equals("word") && !names.containsKey(node.word)) {
            least = node.at;
        }
        if (node.kind.equals("call")) {
            int wanted = KNOWN.contains(node.word) ? OF_TWO.contains(node.word) ? 2 : 1
                : functions.containsKey(node.word) ? functions.get(node.word).parameters.size() : -1;
            if (wanted != node.kids.size()) {
                least = node.at;
            }
        }
        for (Node kid : node.kids) {
            least = Math.min(least, unknownIn(kid));
        }
        return least;
    }

    private void askAhead(Line said) {
        boolean isFunction = said.form == 2;
        Def old = (isFunction ? functions : names).get(said.word);
        boolean isTaken = KNOWN.contains(said.word);
        if (isFunction && old != null && old.parameters.size() != said.parameters.size()) {
            for (Def d : all(names, functions)) {
                isTaken |= d != old && closure(d, names, functions).contains(old);
            }
        }
        if (isTaken) {
            throw new Refused(2, said.wordAt);
        }
        if (old == null && (isFunction ? functions.size() == 10 : names.size() == 20)) {
            throw new Refused(3, said.wordAt);
        }
        if (old == null) {
            return;
        }
        TreeMap<String, Def> newNames = new TreeMap<>(names);
        TreeMap<String, Def> newFunctions = new TreeMap<>(functions);
        Def def = defOf(said);
        (isFunction ? newFunctions : newNames).put(said.word, def);
        if (closure(def, newNames, newFunctions).contains(def)) {
            ringing = ringFrom(def, newNames, newFunctions);
            throw new Refused(4, said.wordAt);
        }
    }

    private static List<Integer> ringFrom(Def def, TreeMap<String, Def> names, TreeMap<String, Def> functions) {
        List<Integer> ring = new ArrayList<>();
        Def at = def;
        do {
            ring.add(at.isFunction ? -number(at.word) : number(at.word));
            Def following = null;
            for (Def d : direct(at.sum, names, functions, new TreeMap<>()).values()) {
                if (following == null && (d == def || closure(d, names, functions).contains(def))) {
                    following = d;
                }
            }
            at = following;
        } while (at != def);
        return ring;
    }

    private static List<Def> all(Map<String, Def> names, Map<String, Def> functions) {
        List<Def> all = new ArrayList<>(names.values());
        all.addAll(functions.values());
        return all;
    }

    /** By keys that put names ahead of functions. */
    private static TreeMap<String, Def> direct(Node node, Map<String, Def> names, Map<String, Def> functions,
        TreeMap<String, Def> into) {
        if (node.kind.equals("word")) {
            into.put("1" + node.word, names.get(node.word));
        }
        if (node.kind.equals("call") && !KNOWN.contains(node.word)) {
            into.put("2" + node.word, functions.get(node.word));
        }
        for (Node kid : node.kids) {
            direct(kid, names, functions, into);
        }
        return into;
    }

    private static Set<Def> closure(Def def, Map<String, Def> names, Map<String, Def> functions) {
        Set<Def> found = new LinkedHashSet<>();
        ArrayDeque<Def> open = new ArrayDeque<>(List.of(def));
        while (!open.isEmpty()) {
            for (Def d : direct(open.removeFirst().sum, names, functions, new TreeMap<>()).values()) {
                if (found.add(d)) {
                    open.add(d);
                }
            }
        }
        return found;
    }

    private void workAnew(Def told, TreeMap<String, Def> newNames, TreeMap<String, Def> newFunctions) {
        Set<String> left = new java.util.TreeSet<>();
        Map<String, Set<String>> usedNames = new HashMap<>();
        for (Def d : newNames.values()) {
            Set<Def> used = closure(d, newNames, newFunctions);
            if (used.contains(told)) {
                left.add(d.word);
            }
            Set<String> words = new java.util.TreeSet<>();
            for (Def u : used) {
                if (!u.isFunction) {
                    words.add(u.word);
                }
            }
            usedNames.put(d.word, words);
        }
        while (!left.isEmpty()) {
            for (String word : left) {
                if (java.util.Collections.disjoint(usedNames.get(word), left)) {
                    Def anew = newNames.get(word).copy();
                    try {
                        anew.value = new Worker(newNames, newFunctions).work(anew.sum, null);
                    } catch (Refused r) {
                        failing = number(word);
                        throw new Refused(9, 0);
                    }
                    newNames.put(word, anew);
                    left.remove(word);
                    break;
                }
            }
        }
    }

    // ---- working

    private static final class Worker {
        final List<String> kinds = new ArrayList<>();
        final List<Q> values = new ArrayList<>();
        private final Map<String, Def> names;
        private final Map<String, Def> functions;
        private int outer = NONE;

        Worker(Map<String, Def> names, Map<String, Def> functions) {
            this.names = names;
            this.functions = functions;
        }

        private Refused refuse(int cause, Node node) {
            return new Refused(cause, outer != NONE ? outer : node.at);
        }

        private Q done(Node node, Q value) {
            if (!value.fits()) {
                throw refuse(7, node);
            }
            kinds.add(node.kind.equals("call") ? node.word : node.kind);
            values.add(value);
            return value;
        }

        Q work(Node node, Map<String, Q> parameters) {
            switch (node.kind) {
                case "number":
                    return node.value;
                case "word":
                    return names.get(node.word).value;
                case "parameter":
                    return parameters.get(node.word);
                default:
            }
            List<Q> given = new ArrayList<>();
            for (Node kid : node.kids) {
                given.add(work(kid, parameters));
            }
            if (node.kind.equals("call") && !KNOWN.contains(node.word)) {
                Def f = functions.get(node.word);
                Map<String, Q> inner = new HashMap<>();
                for (int i = 0; i < given.size(); i++) {
                    inner.put(f.parameters.get(i), given.get(i));
                }
                boolean isOuter = outer == NONE;
                if (isOuter) {
                    outer = node.at;
                }
                Q value = work(f.sum, inner);
                if (isOuter) {
                    outer = NONE;
                }
                if (values.size() == 200) {
                    throw refuse(8, node);
                }
                return done(node, value);
            }
            if (values.size() == 200) {
                throw refuse(8, node);
            }
            return done(node, apply(node, given.get(0), given.get(given.size() - 1)));
        }

        private Q apply(Node node, Q a, Q b) {
            switch (node.kind.equals("call") ? node.word : node.kind) {
                case "+":
                    return a.plus(b);
                case "-":
                    return a.minus(b);
                case "*":
                    return a.times(b);
                case "/":
                    if (b.sign() == 0) {
                        throw refuse(5, node);
                    }
                    return a.over(b);
                case "%":
                    if (b.sign() == 0) {
                        throw refuse(5, node);
                    }
                    return a.minus(b.times(new Q(a.over(b).floor(), ONE)));
                case "^":
                    return power(node, a, b);
                case "!":
                    if (!a.whole() || a.sign() < 0) {
                        throw refuse(6, node);
                    }
                    BigInteger product = ONE;
                    for (BigInteger i = ONE; i.compareTo(a.n) <= 0 && product.compareTo(LIMIT) < 0; i = i.add(ONE)) {
                        product = product.multiply(i);
                    }
                    return new Q(product, ONE);
                case "minus1":
                    return new Q(a.n.negate(), a.d);
                case "gcd": case "lcm":
                    if (!a.whole() || !b.whole()) {
                        throw refuse(6, node);
                    }
                    BigInteger gcd = a.n.gcd(b.n);
                    return new Q(node.word.equals("gcd") ? gcd
                        : gcd.signum() == 0 ? ZERO : a.n.multiply(b.n).abs().divide(gcd), ONE);
                case "floor":
                    return new Q(a.floor(), ONE);
                case "ceil":
                    return new Q(new Q(a.n.negate(), a.d).floor().negate(), ONE);
                case "near":
                    return near(a);
                case "abs":
                    return new Q(a.n.abs(), a.d);
                case "med":
                    return Q.of(a.n.add(b.n), a.d.add(b.d));
                case "num":
                    return new Q(a.n, ONE);
                case "den":
                    return new Q(a.d, ONE);
                case "min":
                    return a.compareTo(b) <= 0 ? a : b;
                case "max":
                    return a.compareTo(b) >= 0 ? a : b;
                default:
                    throw new AssertionError(node.kind);
            }
        }

        private Q power(Node node, Q a, Q b) {
            if (!b.whole() || b.n.abs().compareTo(BigInteger.valueOf(100)) > 0) {
                throw refuse(6, node);
            }
            int exponent = b.n.intValue();
            if (a.sign() == 0 && exponent < 0) {
                throw refuse(5, node);
            }
            int often = Math.abs(exponent);
            return exponent >= 0 ? Q.of(a.n.pow(often), a.d.pow(often)) : Q.of(a.d.pow(often), a.n.pow(often));
        }

        private static Q near(Q a) {
            BigInteger below = a.floor();
            Q left = a.minus(new Q(below, ONE));
            int half = left.plus(left).compareTo(Q.of(1));
            boolean isUp = half > 0 || half == 0 && below.testBit(0);
            return new Q(isUp ? below.add(ONE) : below, ONE);
        }
    }

    public int errorPosition() {
        return errorAt;
    }

    public int refused(int what) {
        if (what < 0 || what > 1) {
            throw new IllegalArgumentException();
        }
        return what == 0 ? cause : place;
    }

    public int failed() {
        return failedWord;
    }

    public int ring() {
        return ringWords.size();
    }

    private static int index(int at, int size) {
        if (at < 0 || at >= size) {
            throw new IndexOutOfBoundsException();
        }
        return at;
    }

    private static int range(int number, int low, int high) {
        if (number < low || number > high) {
            throw new IllegalArgumentException();
        }
        return number;
    }

    public int ringAt(int at) {
        return ringWords.get(index(at, ringWords.size()));
    }

    // ---- answer, slots

    public int sign() {
        return answer.sign();
    }

    private String part(boolean isDenominator) {
        return (isDenominator ? answer.d : answer.n.abs()).toString();
    }

    public int digits(boolean isDenominator) {
        return part(isDenominator).length();
    }

    public int digit(boolean isDenominator, int at) {
        String part = part(isDenominator);
        return part.charAt(index(at, part.length())) - '0';
    }

    public int write(boolean inDecimals) {
        String text = answer.n + (answer.whole() ? "" : "/" + answer.d);
        if (inDecimals) {
            text = decimals(answer);
            if (text == null) {
                return NONE;
            }
        }
        written = text;
        return written.length();
    }

    private static String decimals(Q value) {
        BigInteger[] both = value.n.abs().divideAndRemainder(value.d);
        Map<BigInteger, Integer> seen = new HashMap<>();
        StringBuilder digits = new StringBuilder();
        BigInteger rest = both[1];
        while (rest.signum() != 0 && !seen.containsKey(rest)) {
            if (digits.length() > 100) {
                return null;
            }
            seen.put(rest, digits.length());
            BigInteger[] one = rest.multiply(TEN).divideAndRemainder(value.d);
            digits.append(one[0]);
            rest = one[1];
        }
        if (digits.length() > 100) {
            return null;
        }
        if (rest.signum() != 0) {
            digits.insert(seen.get(rest), "[").append("]");
        }
        return (value.sign() < 0 ? "-" : "") + both[0] + (digits.length() > 0 ? "." + digits : "");
    }

    public char writtenAt(int at) {
        return written.charAt(index(at, written.length()));
    }

    private int answered(Q value) {
        answer = value;
        return value.sign();
    }

    public int keep(int slot) {
        int old = slots[range(slot, 0, 9)].sign();
        slots[slot] = answer;
        return old;
    }

    public int take(int slot) {
        return answered(slots[range(slot, 0, 9)]);
    }

    public int compare(int slot, int other) {
        return slots[range(slot, 0, 9)].compareTo(slots[range(other, 0, 9)]);
    }

    // ---- names and functions

    public int names() {
        return names.size();
    }

    public int nameAt(int at) {
        return number(new ArrayList<>(names.keySet()).get(index(at, names.size())));
    }

    private static Def must(Def def) {
        if (def == null) {
            throw new NoSuchElementException();
        }
        return def;
    }

    public int takeName(int word) {
        return answered(must(find(word, false)).value);
    }

    public int functions() {
        return functions.size();
    }

    public int parameters(int word) {
        return must(find(word, true)).parameters.size();
    }

    public boolean uses(int word, boolean isFunction, int other, boolean isOtherFunction) {
        Def a = find(word, isFunction);
        Def b = find(other, isOtherFunction);
        return a != null && b != null && closure(a, names, functions).contains(b);
    }

    public int users(int word, boolean isFunction) {
        Def used = find(word, isFunction);
        int n = 0;
        for (Def d : names.values()) {
            if (used != null && closure(d, names, functions).contains(used)) {
                n++;
            }
        }
        return n;
    }

    public int drop(int word, boolean isFunction) {
        Def def = must(find(word, isFunction));
        for (Def d : all(names, functions)) {
            if (closure(d, names, functions).contains(def)) {
                throw new IllegalStateException();
            }
        }
        Snapshot before = snapshot();
        names = new TreeMap<>(names);
        functions = new TreeMap<>(functions);
        (isFunction ? functions : names).remove(def.word);
        changed(before);
        return names.size() + functions.size();
    }

    // ---- steps

    public int steps() {
        return stepKinds.size();
    }

    public int stepAt(int step) {
        String kind = stepKinds.get(index(step, stepKinds.size()));
        int at = List.of("+", "-", "*", "/", "%", "^", "!", "minus1").indexOf(kind);
        if (at >= 0) {
            return at + 1;
        }
        return KNOWN.contains(kind) ? KNOWN.indexOf(kind) + 10 : 9;
    }

    public int takeStep(int step) {
        return answered(stepValues.get(index(step, stepValues.size())));
    }

    // ---- decimals, approximations, sums

    private BigInteger core() {
        BigInteger core = answer.d;
        while (core.mod(BigInteger.TWO).signum() == 0) {
            core = core.shiftRight(1);
        }
        while (core.mod(BigInteger.valueOf(5)).signum() == 0) {
            core = core.divide(BigInteger.valueOf(5));
        }
        return core;
    }

    public boolean ends() {
        return core().equals(ONE);
    }

    public int ahead() {
        BigInteger rest = answer.d.divide(core());
        int n = 0;
        while (TEN.pow(n).mod(rest).signum() != 0) {
            n++;
        }
        return n;
    }

    public int repeating() {
        if (ends()) {
            return 0;
        }
        for (int n = 1; n <= 1000; n++) {
            if (TEN.modPow(BigInteger.valueOf(n), core()).equals(ONE)) {
                return n;
            }
        }
        return NONE;
    }

    public int decimal(int at) {
        range(at, 1, 1000);
        return answer.n.abs().multiply(TEN.pow(at)).divide(answer.d).mod(TEN).intValue();
    }

    private List<BigInteger> form() {
        List<BigInteger> form = new ArrayList<>();
        Q left = answer;
        while (true) {
            form.add(left.floor());
            left = left.minus(new Q(left.floor(), ONE));
            if (left.sign() == 0) {
                return form;
            }
            left = Q.of(1).over(left);
        }
    }

    public int continued() {
        return form().size();
    }

    public int takeContinued(int at) {
        List<BigInteger> form = form();
        return answered(new Q(form.get(index(at, form.size())), ONE));
    }

    public int takeBest(int bound) {
        range(bound, 1, 1000);
        Q best = null;
        Q distance = null;
        for (int d = 1; d <= bound; d++) {
            BigInteger den = BigInteger.valueOf(d);
            BigInteger below = answer.times(new Q(den, ONE)).floor();
            for (int k = 0; k < 2; k++) {
                Q one = Q.of(below.add(BigInteger.valueOf(k)), den);
                Q off = one.minus(answer);
                off = new Q(off.n.abs(), off.d);
                if (best == null || off.compareTo(distance) < 0) {
                    best = one;
                    distance = off;
                }
            }
        }
        int side = best.compareTo(answer);
        answer = best;
        return side;
    }

    private List<Q> unitList() {
        if (answer.sign() <= 0 || answer.compareTo(Q.of(1)) >= 0) {
            return null;
        }
        List<Q> list = new ArrayList<>();
        Q left = answer;
        while (left.sign() > 0) {
            BigInteger[] both = left.d.divideAndRemainder(left.n);
            Q unit = new Q(ONE, both[1].signum() == 0 ? both[0] : both[0].add(ONE));
            left = left.minus(unit);
            list.add(unit);
            if (list.size() > 8 || !unit.fits() || !left.fits()) {
                return null;
            }
        }
        return list;
    }

    public int units() {
        List<Q> list = unitList();
        return list == null ? NONE : list.size();
    }

    public int takeUnit(int at) {
        List<Q> list = unitList();
        int found = index(at, list == null ? 0 : list.size());
        answer = list.get(found);
        return answer.d.toString().length();
    }

    // ---- rows

    private void setRow(int row, List<Q> values) {
        Snapshot before = snapshot();
        List<List<Q>> all = new ArrayList<>(rows);
        all.set(row, values);
        rows = all;
        changed(before);
    }

    public int put(int row) {
        range(row, 0, 2);
        if (rows.get(row).size() == 50) {
            throw new IllegalStateException();
        }
        List<Q> values = new ArrayList<>(rows.get(row));
        values.add(answer);
        values.sort(null);
        setRow(row, values);
        return values.size();
    }

    public int out(int row) {
        range(row, 0, 2);
        List<Q> values = new ArrayList<>(rows.get(row));
        if (!values.remove(answer)) {
            throw new NoSuchElementException();
        }
        setRow(row, values);
        return values.size();
    }

    public int empty(int row) {
        int n = rows.get(range(row, 0, 2)).size();
        setRow(row, List.of());
        return n;
    }

    public int count(int row, boolean isSame) {
        int n = 0;
        for (Q q : rows.get(range(row, 0, 2))) {
            n += isSame ? q.equals(answer) ? 1 : 0 : q.compareTo(answer) < 0 ? 1 : 0;
        }
        return n;
    }

    public int takeLeast(int row, int at) {
        List<Q> values = rows.get(range(row, 0, 2));
        return answered(values.get(index(at, values.size())));
    }

    public int takeNext(int row) {
        List<Q> values = rows.get(range(row, 0, 2));
        for (Q q : values) {
            if (q.compareTo(answer) > 0) {
                answer = q;
                return count(row, true);
            }
        }
        throw new NoSuchElementException();
    }

    public int takeAll(int row, int what) {
        range(row, 0, 2);
        range(what, 0, 2);
        List<Q> values = rows.get(row);
        Q all = Q.of(what == 1 ? 1 : 0);
        for (Q q : values) {
            all = what == 1 ? all.times(q) : all.plus(q);
        }
        if (what == 2) {
            if (values.isEmpty()) {
                throw new NoSuchElementException();
            }
            all = all.over(Q.of(values.size()));
        }
        if (!all.fits()) {
            throw new ArithmeticException();
        }
        return answered(all);
    }

    // ---- undo

    public int undo() {
        if (past.isEmpty()) {
            return NONE;
        }
        future.addLast(snapshot());
        back(past.removeLast());
        return past.size();
    }

    public int redo() {
        if (future.isEmpty()) {
            return NONE;
        }
        past.addLast(snapshot());
        back(future.removeLast());
        return future.size();
    }

    // ---- figures

    public double meanDigits() {
        int sum = 0;
        for (Def d : names.values()) {
            sum += d.value.d.toString().length();
        }
        return names.isEmpty() ? 0.0 : (double) sum / (double) names.size();
    }

    public float wholes() {
        int n = 0;
        for (Q q : slots) {
            n += q.whole() ? 1 : 0;
        }
        return (float) n / 10.0f;
    }

    public int errors() {
        return 0;
    }
}
