import java.util.function.Supplier;

/** Tests that are told by the sentence of the document that they hold. */
abstract class Quoting {
    static final String OUT = "throws IndexOutOfBoundsException";
    static final String BAD = "throws IllegalArgumentException";
    static final String STATE = "throws IllegalStateException";
    static final String NO_SUCH = "throws NoSuchElementException";
    static final String REFUSED = "throws ArithmeticException";
    static final String KNOWN = "gcd lcm floor ceil near abs med num den min max";
    /** 10 to the power of 30, less 1: 45 signs, 6 steps. */
    static final String GREATEST = "(999999999999*10^18+999999999999*10^6+999999)";
    static final String NINES = "9".repeat(30);
    static final int[] FAR = {Integer.MIN_VALUE, Integer.MIN_VALUE + 1, -1000, Integer.MAX_VALUE - 1,
        Integer.MAX_VALUE};

    private final Report report;
    private final Sentences sentences;
    private String sentence = "";
    private int checks = 1;

    Quoting(Report report, Sentences sentences) {
        this.report = report;
        this.sentences = sentences;
    }

    /** The checks behind this hold this sentence; a " of the document is a ' here. */
    void says(String section, String words) {
        end();
        sentence = section + " says \"" + words + "\"; ";
        checks = 0;
        report.check(sentence + "so does the document", sentences.quote(section, words), true);
    }

    /** A sentence that names no boundary and asks for nothing that the other sentences do not ask for. */
    void passesOver(String section, String words) {
        end();
        sentence = section + " says \"" + words + "\"; ";
        report.check(sentence + "so does the document", sentences.quote(section, words), true);
    }

    /** Each sentence that is quoted must have its checks. */
    void end() {
        report.check(sentence + "it is tested", checks > 0, true);
        checks = 1;
    }

    void is(String what, Object got, Object due) {
        checks++;
        report.check(sentence + what, got, due);
    }

    void call(String what, Supplier<Object> call, Object due) {
        is(what, Talk.answer(call), due);
    }

    /** A text for a whole number of 30 digits. */
    static String whole(String digits) {
        return "(" + digits.substring(0, 12) + "*10^18+" + digits.substring(12, 24) + "*10^6+" + digits.substring(24)
            + ")";
    }

    static int word(String word) {
        return Talk.word(word);
    }

    /** All that calls can tell of an object; it ends its life, for it takes and empties what it tells. */
    static String allOf(Talk t) {
        StringBuilder all = new StringBuilder("tape " + t.x.clearTape() + " error " + t.x.errorPosition());
        all.append(" refused ").append(t.x.refused(0)).append(' ').append(t.x.refused(1));
        all.append(" failed ").append(t.x.failed()).append(" ring");
        for (int i = 0; i < t.x.ring(); i++) {
            all.append(' ').append(t.x.ringAt(i));
        }
        all.append(" written ").append(t.written()).append(" answer ").append(t.fraction());
        all.append(" names ").append(namesOf(t));
        all.append(" functions ").append(t.x.functions());
        for (char c = 'a'; c <= 'z'; c++) {
            int word = c - 'a' + 1;
            all.append(Talk.answer(() -> t.x.parameters(word)).toString().replaceFirst("throws.*", "."));
        }
        for (int i = 0; i < 10; i++) {
            t.x.take(i);
            all.append(" slot ").append(t.fraction());
        }
        for (int i = 0; i < t.x.steps(); i++) {
            t.x.takeStep(i);
            all.append(" step ").append(t.x.stepAt(i)).append(' ').append(t.fraction());
        }
        return all.append(rowsOf(t)).append(pastOf(t)).toString();
    }

    static String namesOf(Talk t) {
        StringBuilder all = new StringBuilder();
        for (int i = 0; i < t.x.names(); i++) {
            t.x.takeName(t.x.nameAt(i));
            all.append(t.x.nameAt(i)).append('=').append(t.fraction()).append(' ');
        }
        return all.toString().trim();
    }

    static String rowsOf(Talk t) {
        StringBuilder all = new StringBuilder();
        for (int row = 0; row < 3; row++) {
            all.append(" row ").append(rowOf(t, row));
        }
        return all.toString();
    }

    static String rowOf(Talk t, int row) {
        StringBuilder all = new StringBuilder();
        for (int i = 0; i < 50; i++) {
            int at = i;
            if (Talk.answer(() -> t.x.takeLeast(row, at)) instanceof Integer) {
                all.append(i > 0 ? " " : "").append(t.fraction());
            } else {
                return all.toString();
            }
        }
        return all.toString();
    }

    private static String pastOf(Talk t) {
        int done = 0;
        while (done < 25 && t.x.redo() != ExactlySaid.NONE) {
            done++;
        }
        int undone = 0;
        while (undone < 25 && t.x.undo() != ExactlySaid.NONE) {
            undone++;
        }
        return " redone " + done + " undone " + undone;
    }
}
