import java.util.function.Supplier;

/** An ExactlySaid that is talked to with texts, for tests. */
final class Talk {
    final ExactlySaid x = new ExactlySaid();

    /** What a call answers, or "throws" with the exception's class. */
    static Object answer(Supplier<Object> call) {
        try {
            return call.get();
        } catch (RuntimeException e) {
            return "throws " + e.getClass().getSimpleName();
        }
    }

    /** Puts a text on the tape. */
    Talk tell(String text) {
        for (int at = 0; at < text.length(); at += 20) {
            int[] parts = new int[5];
            for (int i = 0; i < 20 && at + i < text.length(); i++) {
                parts[i / 4] |= (text.charAt(at + i) & 255) << 24 - i % 4 * 8;
            }
            x.append(parts[0], parts[1], parts[2], parts[3], parts[4]);
        }
        return this;
    }

    /** The answer of run(); of an error "error at", of a refused line "refused by" with the cause and place. */
    Object run(String text) {
        tell(text);
        Object gave = answer(x::run);
        if (gave.equals("throws IllegalArgumentException")) {
            return "error at " + x.errorPosition();
        }
        if (gave.equals("throws ArithmeticException")) {
            return "refused by " + x.refused(0) + " at " + x.refused(1);
        }
        return gave;
    }

    /** The answer as a fraction. */
    String fraction() {
        x.write(false);
        return written();
    }

    String decimals() {
        return x.write(true) == ExactlySaid.NONE ? "NONE" : written();
    }

    /** All signs that writtenAt() tells. */
    String written() {
        StringBuilder text = new StringBuilder();
        for (int i = 0;; i++) {
            int at = i;
            Object sign = answer(() -> x.writtenAt(at));
            if (!(sign instanceof Character)) {
                return text.toString();
            }
            text.append((char) sign);
        }
    }

    /** What a sum gives, or why it does not. */
    String value(String text) {
        Object gave = run(text);
        return gave instanceof Integer ? fraction() : (String) gave;
    }

    String steps() {
        StringBuilder text = new StringBuilder();
        for (int i = 0; i < x.steps(); i++) {
            text.append(i > 0 ? " " : "").append(x.stepAt(i));
        }
        return text.toString();
    }

    static int word(String word) {
        return Model.number(word);
    }
}
