import java.util.Arrays;
import java.util.NoSuchElementException;

/** A calculator of fractions that are exactly what is said; ../shared/DOC.md promises what each call does. */
public final class ExactlySaid {
    public static final int NONE = -1;

    // Limits of the document.
    private static final int MOST_BYTES = 200;
    private static final int MOST_STEPS = 200;
    private static final int MOST_NAMES = 20;
    private static final int MOST_FUNCTIONS = 10;
    private static final int MOST_PARAMETERS = 4;
    private static final int MOST_OPEN = 12;
    private static final int MOST_EXPONENT = 100;
    private static final int MOST_CHANGES = 20;
    private static final int MOST_IN_ROW = 50;
    private static final int MOST_UNITS = 8;
    private static final int MOST_BOUND = 1000;
    private static final int MOST_DECIMALS = 1000;
    private static final int MOST_WRITTEN_DECIMALS = 100;
    private static final int SLOTS = 10;
    private static final int ROWS = 3;

    /** Ends loops whose real end lies far ahead of it. */
    private static final int MANY = 1000000;

    // What a text can be; run() answers it.
    private static final int SUM = 0;
    private static final int NAME_LINE = 1;
    private static final int FUNCTION_LINE = 2;

    // The causes of a refusal.
    private static final int UNKNOWN = 1;
    private static final int TAKEN = 2;
    private static final int ROOM = 3;
    private static final int RING = 4;
    private static final int ZERO = 5;
    private static final int WHOLE = 6;
    private static final int GREAT = 7;
    private static final int LONG = 8;
    private static final int BEHIND = 9;

    // What a step was; stepAt() answers it.
    private static final int PLUS = 1;
    private static final int MINUS = 2;
    private static final int TIMES = 3;
    private static final int OVER = 4;
    private static final int REST = 5;
    private static final int POWER = 6;
    private static final int FACTORIAL = 7;
    private static final int NEGATIVE = 8;
    private static final int CALL = 9;
    private static final int GCD = 10;
    private static final int LCM = 11;
    private static final int FLOOR = 12;
    private static final int CEIL = 13;
    private static final int NEAR = 14;
    private static final int ABS = 15;
    private static final int MED = 16;
    private static final int NUM = 17;
    private static final int DEN = 18;
    private static final int MIN = 19;
    private static final int MAX = 20;

    // What stands in a sum beside the steps.
    private static final int NUMBER = 21;
    private static final int NAME = 22;
    private static final int PARAMETER = 23;

    /** The numbers of the words gcd lcm floor ceil near abs med num den min max, in the order of their steps. */
    private static final int[] KNOWN_WORDS =
        {5188, 8842, 3436200, 62949, 279252, 802, 9616, 10786, 3065, 9734, 9528};

    private final int[] tape = new int[MOST_BYTES];
    private int tapeLength;
    private int errorAt = NONE;

    // The latest refusal.
    private int cause = NONE;
    private int causePlace = NONE;
    private int failedWord = NONE;
    private final int[] ringWords = new int[MOST_NAMES + MOST_FUNCTIONS];
    private int ringLength;

    private Fraction answer = new Fraction();
    private final Fraction[] slots = new Fraction[SLOTS];
    private final StringBuilder written = new StringBuilder();
    private Steps kept = new Steps();
    private Steps spare = new Steps();

    /** The states that undo() and redo() can come to: the present one stands at now. */
    private final State[] states = new State[MOST_CHANGES + 1];
    private int now;
    private int last;

    private final Reckoner reckoner = new Reckoner();
    private final Reader reader = new Reader();
    private final Machine machine = new Machine();

    public ExactlySaid() {
        for (int i = 0; i < slots.length; i++) {
            slots[i] = answer;
        }
        states[0] = new State();
    }

    // ---- The tape, lines

    public int append(int a, int b, int c, int d, int e) throws IllegalStateException {
        if (tapeLength + bytesIn(a) + bytesIn(b) + bytesIn(c) + bytesIn(d) + bytesIn(e) > MOST_BYTES) {
            throw new IllegalStateException();
        }
        lay(a);
        lay(b);
        lay(c);
        lay(d);
        lay(e);
        return tapeLength;
    }

    public int clearTape() {
        int length = tapeLength;
        tapeLength = 0;
        return length;
    }

    public int run() throws IllegalArgumentException, ArithmeticException {
        errorAt = reader.read(tape, tapeLength, reckoner);
        tapeLength = 0;
        if (errorAt != NONE) {
            throw new IllegalArgumentException();
        }
        if (isRefusedAhead() || isRefusedAtWork()) {
            throw new ArithmeticException();
        }
        Fraction value = reader.form == FUNCTION_LINE ? null : new Fraction(machine.given);
        if (reader.form != SUM) {
            Book told = bookWith(value);
            if (told == null) {
                throw new ArithmeticException();
            }
            change(new State(told, present().rows));
        }
        if (value != null) {
            answer = value;
            Steps old = kept;
            kept = spare;
            spare = old;
        }
        return reader.form;
    }

    public int errorPosition() {
        return errorAt;
    }

    public int refused(int what) throws IllegalArgumentException {
        if (what != 0 && what != 1) {
            throw new IllegalArgumentException();
        }
        return what == 0 ? cause : causePlace;
    }

    public int failed() {
        return failedWord;
    }

    public int ring() {
        return ringLength;
    }

    public int ringAt(int place) throws IndexOutOfBoundsException {
        if (place < 0 || place >= ringLength || place >= ringWords.length) {
            throw new IndexOutOfBoundsException();
        }
        return ringWords[place];
    }

    private static int bytesIn(int word) {
        int bytes = 0;
        for (int shift = 24; shift >= 0; shift -= 8) {
            if ((word >>> shift & 255) != 0) {
                bytes++;
            }
        }
        return bytes;
    }

    private void lay(int word) {
        for (int shift = 24; shift >= 0; shift -= 8) {
            int next = word >>> shift & 255;
            if (next != 0 && tapeLength < tape.length) {
                tape[tapeLength] = next;
                tapeLength++;
            }
        }
    }

    private void refuse(int why, int place) {
        cause = why;
        causePlace = place;
        failedWord = NONE;
        ringLength = 0;
    }

    /** Asks for the causes that are asked ahead of all steps, in their order. */
    private boolean isRefusedAhead() {
        Book book = present().book;
        int unknown = book.firstUnknown(reader.sum);
        if (unknown != NONE) {
            refuse(UNKNOWN, unknown);
            return true;
        }
        if (reader.form == SUM) {
            return false;
        }
        int node = book.find(reader.word, reader.form == FUNCTION_LINE);
        if (isTaken(book, node)) {
            refuse(TAKEN, reader.wordPlace);
        } else if (node == NONE && isFull(book)) {
            refuse(ROOM, reader.wordPlace);
        } else if (node != NONE && book.leadsTo(book.usedBy(reader.sum), node)) {
            refuse(RING, reader.wordPlace);
            traceRing(book, node);
        } else {
            return false;
        }
        return true;
    }

    private boolean isTaken(Book book, int node) {
        if (stepOf(reader.word) != 0) {
            return true;
        }
        return node != NONE && reader.form == FUNCTION_LINE && book.isUsed(node)
            && book.parametersOf(node) != reader.parameterCount;
    }

    private boolean isFull(Book book) {
        if (reader.form == FUNCTION_LINE) {
            return book.functions.length >= MOST_FUNCTIONS;
        }
        return book.names.length >= MOST_NAMES;
    }

    /** The book still holds the old telling of the node; the ring starts with what the new one uses. */
    private void traceRing(Book book, int node) {
        int used = book.usedBy(reader.sum);
        int next = node;
        for (int turn = 0; turn < ringWords.length; turn++) {
            ringWords[ringLength] = book.signedWordOf(next);
            ringLength++;
            next = book.firstTowards(used, node);
            if (next == node || next == NONE) {
                return;
            }
            used = book.directFrom(next);
        }
    }

    /** Works the sum of the line, unless a function is told by it. */
    private boolean isRefusedAtWork() {
        if (reader.form == FUNCTION_LINE) {
            return false;
        }
        spare.length = 0;
        int why = machine.work(reader.sum, present().book, spare, reckoner);
        if (why != 0) {
            refuse(why, machine.place);
        }
        return why != 0;
    }

    /** Answers the book with what the line tells and all that uses it worked anew, or null if this is refused. */
    private Book bookWith(Fraction value) {
        Told told = new Told(reader.word, reader.parameterCount, reader.sum, value);
        Book book = present().book.with(told);
        int left = book.usersOf(book.find(told.word, value == null));
        for (int turn = 0; turn < MOST_NAMES && left != 0; turn++) {
            int user = book.firstReady(left);
            Told old = book.toldAt(user);
            if (old == null) {
                return null;
            }
            if (machine.work(old.sum, book, null, reckoner) != 0) {
                refuse(BEHIND, 0);
                failedWord = old.word;
                return null;
            }
            book.names[user] = new Told(old.word, 0, old.sum, new Fraction(machine.given));
            left &= ~(1 << user);
        }
        return book;
    }

    // ---- The answer, slots

    public int sign() {
        return answer.sign;
    }

    public int digits(boolean isDenominator) {
        return partOfAnswer(isDenominator).digitCount();
    }

    public int digit(boolean isDenominator, int place) throws IndexOutOfBoundsException {
        Nat part = partOfAnswer(isDenominator);
        if (place < 0 || place >= part.digitCount()) {
            throw new IndexOutOfBoundsException();
        }
        return part.digitAt(place);
    }

    public int write(boolean inDecimals) {
        if (!inDecimals) {
            written.setLength(0);
            writeFraction(answer, written);
            return written.length();
        }
        int before = reckoner.lengthAhead(answer);
        int again = reckoner.lengthRepeating(MOST_WRITTEN_DECIMALS);
        if (again == NONE || before + again > MOST_WRITTEN_DECIMALS) {
            return NONE;
        }
        written.setLength(0);
        writeDecimals(before, again);
        return written.length();
    }

    public char writtenAt(int index) throws IndexOutOfBoundsException {
        if (index < 0 || index >= written.length()) {
            throw new IndexOutOfBoundsException();
        }
        return written.charAt(index);
    }

    public int keep(int slot) throws IllegalArgumentException {
        if (!isSlot(slot)) {
            throw new IllegalArgumentException();
        }
        int old = slots[slot].sign;
        slots[slot] = answer;
        return old;
    }

    public int take(int slot) throws IllegalArgumentException {
        if (!isSlot(slot)) {
            throw new IllegalArgumentException();
        }
        answer = slots[slot];
        return answer.sign;
    }

    public int compare(int slot, int other) throws IllegalArgumentException {
        if (!isSlot(slot) || !isSlot(other)) {
            throw new IllegalArgumentException();
        }
        return reckoner.order(slots[slot], slots[other]);
    }

    private boolean isSlot(int slot) {
        return slot >= 0 && slot < slots.length;
    }

    private Nat partOfAnswer(boolean isDenominator) {
        return isDenominator ? answer.den : answer.num;
    }

    /** Makes the answer a copy of a fraction that is worked with, for what is kept never changes. */
    private int takeCopy(Fraction value) {
        answer = new Fraction(value);
        return answer.sign;
    }

    private static void writeDigits(Nat value, StringBuilder text) {
        int length = value.digitCount();
        for (int place = 0; place < length; place++) {
            text.append((char) ('0' + value.digitAt(place)));
        }
    }

    private static void writeFraction(Fraction value, StringBuilder text) {
        if (value.sign < 0) {
            text.append('-');
        }
        writeDigits(value.num, text);
        if (!value.isWhole()) {
            text.append('/');
            writeDigits(value.den, text);
        }
    }

    private void writeDecimals(int before, int again) {
        if (answer.sign < 0) {
            written.append('-');
        }
        writeDigits(reckoner.startDecimals(answer), written);
        if (before + again > 0) {
            written.append('.');
        }
        for (int place = 0; place < before + again; place++) {
            if (place == before) {
                written.append('[');
            }
            written.append((char) ('0' + reckoner.nextDecimals(answer, 1)));
        }
        if (again > 0) {
            written.append(']');
        }
    }

    // ---- Names and functions

    public int names() {
        return present().book.names.length;
    }

    public int nameAt(int place) throws IndexOutOfBoundsException {
        Told[] all = present().book.names;
        if (place < 0 || place >= all.length) {
            throw new IndexOutOfBoundsException();
        }
        return all[place].word;
    }

    public int takeName(int word) throws NoSuchElementException {
        Told name = present().book.toldAt(present().book.find(word, false));
        if (name == null || name.value == null) {
            throw new NoSuchElementException();
        }
        answer = name.value;
        return answer.sign;
    }

    public int functions() {
        return present().book.functions.length;
    }

    public int parameters(int word) throws NoSuchElementException {
        Told function = present().book.toldAt(present().book.find(word, true));
        if (function == null) {
            throw new NoSuchElementException();
        }
        return function.parameterCount;
    }

    public boolean uses(int word, boolean isFunction, int other, boolean isOtherFunction) {
        Book book = present().book;
        int user = book.find(word, isFunction);
        int used = book.find(other, isOtherFunction);
        return user != NONE && used != NONE && book.isUsing(user, used);
    }

    public int users(int word, boolean isFunction) {
        Book book = present().book;
        return Integer.bitCount(book.usersOf(book.find(word, isFunction)));
    }

    public int drop(int word, boolean isFunction) throws NoSuchElementException, IllegalStateException {
        Book book = present().book;
        int node = book.find(word, isFunction);
        if (node == NONE) {
            throw new NoSuchElementException();
        }
        if (book.isUsed(node)) {
            throw new IllegalStateException();
        }
        Book left = book.without(node);
        change(new State(left, present().rows));
        return left.names.length + left.functions.length;
    }

    /** The step of a function that is known at first; 0 for all other words. */
    private static int stepOf(int word) {
        for (int i = 0; i < KNOWN_WORDS.length; i++) {
            if (KNOWN_WORDS[i] == word) {
                return GCD + i;
            }
        }
        return 0;
    }

    /** With how many values a sign, or a function that is known at first, is worked. */
    private static int valuesOf(int step) {
        switch (step) {
            case FACTORIAL: case NEGATIVE: case FLOOR: case CEIL: case NEAR: case ABS: case NUM: case DEN:
                return 1;
            default:
                return 2;
        }
    }

    // ---- Steps

    public int steps() {
        return kept.length;
    }

    public int stepAt(int step) throws IndexOutOfBoundsException {
        if (step < 0 || step >= kept.length || step >= kept.kinds.length) {
            throw new IndexOutOfBoundsException();
        }
        return kept.kinds[step];
    }

    public int takeStep(int step) throws IndexOutOfBoundsException {
        if (step < 0 || step >= kept.length || step >= kept.gave.length) {
            throw new IndexOutOfBoundsException();
        }
        return takeCopy(kept.gave[step]);
    }

    // ---- Decimals, approximations, sums

    public boolean ends() {
        reckoner.lengthAhead(answer);
        return reckoner.lengthRepeating(1) == 0;
    }

    public int ahead() {
        return reckoner.lengthAhead(answer);
    }

    public int repeating() {
        reckoner.lengthAhead(answer);
        return reckoner.lengthRepeating(MOST_DECIMALS);
    }

    public int decimal(int place) throws IllegalArgumentException {
        if (place < 1 || place > MOST_DECIMALS) {
            throw new IllegalArgumentException();
        }
        reckoner.startDecimals(answer);
        int digit = 0;
        for (int left = place; left > 0; left -= 9) {
            digit = reckoner.nextDecimals(answer, Math.min(left, 9)) % 10;
        }
        return digit;
    }

    public int continued() {
        return reckoner.continuedForm(answer, NONE);
    }

    public int takeContinued(int place) throws IndexOutOfBoundsException {
        if (place < 0 || place >= reckoner.continuedForm(answer, place)) {
            throw new IndexOutOfBoundsException();
        }
        return takeCopy(reckoner.found);
    }

    public int takeBest(int bound) throws IllegalArgumentException {
        if (bound < 1 || bound > MOST_BOUND) {
            throw new IllegalArgumentException();
        }
        int side = reckoner.bestWithin(answer, bound);
        answer = new Fraction(reckoner.found);
        return side;
    }

    public int units() {
        return reckoner.unitFractions(answer, NONE);
    }

    public int takeUnit(int place) throws IndexOutOfBoundsException {
        if (place < 0 || place >= reckoner.unitFractions(answer, place)) {
            throw new IndexOutOfBoundsException();
        }
        answer = new Fraction(reckoner.found);
        return answer.den.digitCount();
    }

    // ---- Rows

    public int put(int row) throws IllegalArgumentException, IllegalStateException {
        if (!isRow(row)) {
            throw new IllegalArgumentException();
        }
        Row old = present().rows[row];
        if (old.values.length >= MOST_IN_ROW) {
            throw new IllegalStateException();
        }
        Row wider = old.with(answer, reckoner.countBelow(old, answer));
        change(present().withRow(row, wider));
        return wider.values.length;
    }

    public int out(int row) throws IllegalArgumentException, NoSuchElementException {
        if (!isRow(row)) {
            throw new IllegalArgumentException();
        }
        Row old = present().rows[row];
        int place = reckoner.countBelow(old, answer);
        if (old.countSame(place, answer) == 0) {
            throw new NoSuchElementException();
        }
        Row left = old.without(place);
        change(present().withRow(row, left));
        return left.values.length;
    }

    public int empty(int row) throws IllegalArgumentException {
        if (!isRow(row)) {
            throw new IllegalArgumentException();
        }
        int length = present().rows[row].values.length;
        change(present().withRow(row, new Row(0)));
        return length;
    }

    public int count(int row, boolean isSame) throws IllegalArgumentException {
        if (!isRow(row)) {
            throw new IllegalArgumentException();
        }
        int below = reckoner.countBelow(present().rows[row], answer);
        return isSame ? present().rows[row].countSame(below, answer) : below;
    }

    public int takeLeast(int row, int place) throws IllegalArgumentException, IndexOutOfBoundsException {
        if (!isRow(row)) {
            throw new IllegalArgumentException();
        }
        Fraction[] values = present().rows[row].values;
        if (place < 0 || place >= values.length) {
            throw new IndexOutOfBoundsException();
        }
        answer = values[place];
        return answer.sign;
    }

    public int takeNext(int row) throws IllegalArgumentException, NoSuchElementException {
        if (!isRow(row)) {
            throw new IllegalArgumentException();
        }
        Row all = present().rows[row];
        int below = reckoner.countBelow(all, answer);
        int next = below + all.countSame(below, answer);
        if (next >= all.values.length) {
            throw new NoSuchElementException();
        }
        answer = all.values[next];
        return all.countSame(next, answer);
    }

    public int takeAll(int row, int what) throws IllegalArgumentException, NoSuchElementException, ArithmeticException {
        if (!isRow(row) || what < 0 || what > 2) {
            throw new IllegalArgumentException();
        }
        Fraction[] values = present().rows[row].values;
        if (what == 2 && values.length == 0) {
            throw new NoSuchElementException();
        }
        Fraction all = what == 2 ? reckoner.meanOf(values) : reckoner.totalOf(values, what == 1);
        if (!all.fits()) {
            throw new ArithmeticException();
        }
        return takeCopy(all);
    }

    private boolean isRow(int row) {
        return row >= 0 && row < present().rows.length;
    }

    // ---- Undo

    public int undo() {
        if (now < 1) {
            return NONE;
        }
        now--;
        return now;
    }

    public int redo() {
        if (now >= last) {
            return NONE;
        }
        now++;
        return last - now;
    }

    private State present() {
        return states[now];
    }

    private void change(State next) {
        if (now + 1 >= states.length) {
            for (int i = 1; i < states.length; i++) {
                states[i - 1] = states[i];
            }
            now = states.length - 2;
        }
        now++;
        last = now;
        states[now] = next;
    }

    // ---- Figures and second ways

    public double meanDigits() {
        Told[] all = present().book.names;
        if (all.length == 0) {
            return 0.0;
        }
        int sum = 0;
        for (int i = 0; i < all.length; i++) {
            if (all[i].value != null) {
                sum += all[i].value.den.digitCount();
            }
        }
        return (double) sum / (double) all.length;
    }

    public float wholes() {
        int whole = 0;
        for (int i = 0; i < slots.length; i++) {
            if (slots[i].isWhole()) {
                whole++;
            }
        }
        return (float) whole / 10.0f;
    }

    public int errors() {
        return wrongNames() + wrongPairs() + wrongTexts();
    }

    private int wrongNames() {
        Book book = present().book;
        int wrong = 0;
        for (int i = 0; i < book.names.length; i++) {
            Told name = book.names[i];
            if (machine.work(name.sum, book, null, reckoner) != 0 || name.value == null
                || !machine.given.isSame(name.value)) {
                wrong++;
            }
        }
        return wrong;
    }

    private int wrongPairs() {
        int wrong = 0;
        for (int i = 0; i < slots.length; i++) {
            for (int k = i + 1; k < slots.length; k++) {
                if (!reckoner.isLawful(slots[i], slots[k])) {
                    wrong++;
                }
            }
        }
        return wrong;
    }

    private int wrongTexts() {
        StringBuilder text = new StringBuilder();
        Fraction back = new Fraction();
        int wrong = 0;
        for (int i = 0; i < slots.length; i++) {
            text.setLength(0);
            writeFraction(slots[i], text);
            readFraction(text, back);
            if (!back.isSame(slots[i])) {
                wrong++;
            }
        }
        return wrong;
    }

    private void readFraction(StringBuilder text, Fraction back) {
        boolean isNegative = text.length() > 0 && text.charAt(0) == '-';
        int slash = text.length();
        back.num.setSmall(0);
        back.den.setSmall(0);
        for (int i = isNegative ? 1 : 0; i < text.length(); i++) {
            if (text.charAt(i) == '/') {
                slash = i;
            } else {
                Nat part = i < slash ? back.num : back.den;
                part.raise(10, text.charAt(i) - '0');
            }
        }
        if (slash == text.length()) {
            back.den.setSmall(1);
        }
        back.setSign(isNegative ? -1 : 1);
        reckoner.reduce(back);
    }

    /** A whole number from 0 on: limbs of nine decimal digits, the lowest first. */
    private static final class Nat {
        private static final int BASE = 1000000000;
        private static final int LIMB_DIGITS = 9;

        private int[] limbs = new int[4];
        private int size;

        private boolean isZero() {
            return size == 0;
        }

        private boolean isOne() {
            return size == 1 && limbs[0] == 1;
        }

        /** Whether a value can have it as a part: whether it is less than 10 to the power of 30. */
        private boolean fits() {
            return size < 4 || size == 4 && limbs[3] < 1000;
        }

        private boolean isLong() {
            return size <= 2;
        }

        /** The number, if isLong(). */
        private long asLong() {
            long high = size > 1 ? limbs[1] : 0;
            return high * BASE + (size > 0 ? limbs[0] : 0);
        }

        /** Whether it can be divided by 2 or 5, which divide the base. */
        private boolean isMultiple(int twoOrFive) {
            return size == 0 || limbs[0] % (twoOrFive == 2 ? 2 : 5) == 0;
        }

        /** Makes it a number below 10 to the power of 18. */
        private void setSmall(long value) {
            limbs[0] = (int) (value % BASE);
            limbs[1] = (int) (value / BASE);
            size = limbs[1] != 0 ? 2 : limbs[0] != 0 ? 1 : 0;
        }

        private void setTo(Nat other) {
            if (limbs.length < other.size) {
                limbs = new int[other.size * 2];
            }
            for (int i = 0; i < other.size; i++) {
                limbs[i] = other.limbs[i];
            }
            size = other.size;
        }

        private void trim() {
            while (size > 0 && limbs[size - 1] == 0) {
                size--;
            }
        }

        private int against(Nat other) {
            if (size != other.size) {
                return size < other.size ? -1 : 1;
            }
            for (int i = size - 1; i >= 0; i--) {
                if (limbs[i] != other.limbs[i]) {
                    return limbs[i] < other.limbs[i] ? -1 : 1;
                }
            }
            return 0;
        }

        private int limb(int place) {
            return place >= 0 && place < size ? limbs[place] : 0;
        }

        private void plus(Nat other) {
            int longer = Math.max(size, other.size);
            if (limbs.length <= longer) {
                limbs = Arrays.copyOf(limbs, longer * 2 + 1);
            }
            int carry = 0;
            for (int i = 0; i < longer; i++) {
                int both = limb(i) + other.limb(i) + carry;
                carry = both >= BASE ? 1 : 0;
                limbs[i] = both - carry * BASE;
            }
            limbs[longer] = carry;
            size = longer + 1;
            trim();
        }

        /** Takes off a number that is not greater. */
        private void minus(Nat other) {
            int borrow = 0;
            for (int i = 0; i < size; i++) {
                int left = limbs[i] - other.limb(i) - borrow;
                borrow = left < 0 ? 1 : 0;
                limbs[i] = left + borrow * BASE;
            }
            trim();
        }

        /** Multiplies it by a factor from 1 up to BASE, and adds what is below BASE. */
        private void raise(int factor, int more) {
            long carry = more;
            for (int i = 0; i < size; i++) {
                carry += (long) limbs[i] * factor;
                limbs[i] = (int) (carry % BASE);
                carry /= BASE;
            }
            if (carry > 0) {
                if (limbs.length <= size) {
                    limbs = Arrays.copyOf(limbs, size * 2 + 1);
                }
                limbs[size] = (int) carry;
                size++;
            }
        }

        /** Divides it by a number from 1 up to BASE, and answers the rest. */
        private int lower(int divisor) {
            if (divisor < 1) {
                return 0;
            }
            long rest = 0;
            for (int i = size - 1; i >= 0; i--) {
                rest = rest * BASE + limbs[i];
                limbs[i] = (int) (rest / divisor);
                rest %= divisor;
            }
            if (size > 0 && limbs[size - 1] == 0) {
                size--;
            }
            return (int) rest;
        }

        /** Makes it the product of two others; it is neither of them. */
        private void setProduct(Nat a, Nat b) {
            int wanted = a.size + b.size;
            if (limbs.length < wanted) {
                limbs = new int[wanted * 2];
            }
            for (int i = 0; i < wanted; i++) {
                limbs[i] = 0;
            }
            for (int i = 0; i < a.size; i++) {
                long carry = 0;
                for (int k = 0; k < b.size; k++) {
                    carry += (long) a.limbs[i] * b.limbs[k] + limbs[i + k];
                    limbs[i + k] = (int) (carry % BASE);
                    carry /= BASE;
                }
                limbs[i + b.size] = (int) carry;
            }
            size = wanted;
            trim();
        }

        private int digitCount() {
            if (size == 0) {
                return 1;
            }
            int digits = (size - 1) * LIMB_DIGITS;
            for (int top = limbs[size - 1]; top > 0; top /= 10) {
                digits++;
            }
            return digits;
        }

        /** A decimal digit; place 0 is the highest one. */
        private int digitAt(int place) {
            int fromLowest = digitCount() - 1 - place;
            int digit = limb(fromLowest / LIMB_DIGITS);
            for (int i = fromLowest % LIMB_DIGITS; i > 0; i--) {
                digit /= 10;
            }
            return digit % 10;
        }
    }

    /** A fraction in lowest terms. The ones that are kept (answer, slots, names, rows) never change. */
    private static final class Fraction {
        private int sign;
        private final Nat num = new Nat();
        private final Nat den = new Nat();

        private Fraction() {
            den.setSmall(1);
        }

        private Fraction(Fraction other) {
            setTo(other);
        }

        private void setTo(Fraction other) {
            sign = other.sign;
            num.setTo(other.num);
            den.setTo(other.den);
        }

        /** Gives it the sign, or 0 if it is 0. */
        private void setSign(int given) {
            sign = num.isZero() ? 0 : given;
        }

        private void setWhole(Nat amount, int given) {
            num.setTo(amount);
            den.setSmall(1);
            setSign(given);
        }

        private boolean fits() {
            return num.fits() && den.fits();
        }

        private boolean isWhole() {
            return den.isOne();
        }

        private boolean isSame(Fraction other) {
            return sign == other.sign && num.against(other.num) == 0 && den.against(other.den) == 0;
        }
    }

    /** Works with fractions, without making any: what it needs on the way it holds. */
    private static final class Reckoner {
        private static final long LEAST_GREAT_CORE = 100000000000000000L;
        private static final int[] TENS =
            {1, 10, 100, 1000, 10000, 100000, 1000000, 10000000, 100000000, 1000000000};

        private final Nat quotient = new Nat();
        private final Nat scaled = new Nat();
        private final Nat rest = new Nat();
        private final Nat high = new Nat();
        private final Nat low = new Nat();
        private final Nat common = new Nat();
        private final Nat shared = new Nat();
        private final Nat partA = new Nat();
        private final Nat partB = new Nat();
        private final Nat left = new Nat();
        private final Nat right = new Nat();
        /** What is left of a denominator without its factors 2 and 5. */
        private final Nat core = new Nat();
        /** What is still to be divided for the next decimals. */
        private final Nat decimals = new Nat();
        private final Fraction turned = new Fraction();
        private final Fraction first = new Fraction();
        private final Fraction second = new Fraction();
        /** What takeContinued(), takeBest() and takeUnit() ask for, and room for the sum of a mean. */
        private final Fraction found = new Fraction();

        /** into and remainder are two other numbers than b, into another one than a, remainder may be a. */
        private void divide(Nat a, Nat b, Nat into, Nat remainder) {
            remainder.setTo(a);
            into.size = 0;
            if (b.size == 0 || a.against(b) < 0) {
                return;
            }
            if (b.size == 1) {
                into.setTo(a);
                remainder.setSmall(into.lower(b.limbs[0]));
                return;
            }
            // Knuth's way: with a high first limb of the divisor the first guess of a quotient is nearly right
            int scale = Nat.BASE / (b.limbs[b.size - 1] + 1);
            scaled.setTo(b);
            scaled.raise(scale, 0);
            remainder.raise(scale, 0);
            int length = remainder.size;
            if (remainder.limbs.length <= length) {
                remainder.limbs = Arrays.copyOf(remainder.limbs, length * 2 + 1);
            }
            remainder.limbs[length] = 0;
            int wanted = length - scaled.size + 1;
            if (into.limbs.length < wanted) {
                into.limbs = new int[wanted * 2];
            }
            for (int shift = wanted - 1; shift >= 0; shift--) {
                into.limbs[shift] = takeOff(remainder.limbs, shift);
            }
            into.size = wanted;
            into.trim();
            remainder.trim();
            remainder.lower(scale);
        }

        /** Takes the scaled divisor, moved up by some limbs, off as often as it goes, which is less than BASE times. */
        private int takeOff(int[] from, int shift) {
            int length = scaled.size;
            int top = shift + length;
            if (length < 1 || shift < 0 || top >= from.length || scaled.limbs[length - 1] < 1) {
                return 0;
            }
            long highest = (long) from[top] * Nat.BASE + from[top - 1];
            long times = Math.min(highest / scaled.limbs[length - 1], Nat.BASE - 1);
            long carry = 0;
            for (int i = 0; i < length; i++) {
                carry += from[shift + i] - times * scaled.limbs[i];
                long limb = Math.floorMod(carry, (long) Nat.BASE);
                from[shift + i] = (int) limb;
                carry = (carry - limb) / Nat.BASE;
            }
            int over = (int) (from[top] + carry);
            for (int turn = 0; turn < 4 && over < 0; turn++) {
                times--;
                int more = 0;
                for (int i = 0; i < length; i++) {
                    int both = from[shift + i] + scaled.limbs[i] + more;
                    more = both >= Nat.BASE ? 1 : 0;
                    from[shift + i] = both - more * Nat.BASE;
                }
                over += more;
            }
            from[top] = over;
            return (int) times;
        }

        /** into is neither a nor b; it is 0 only if both are. */
        private void gcd(Nat a, Nat b, Nat into) {
            Nat greater = high;
            Nat lesser = low;
            greater.setTo(a);
            lesser.setTo(b);
            for (int turn = 0; turn < MANY && !(lesser.isLong() && greater.isLong()); turn++) {
                if (lesser.isZero()) {
                    into.setTo(greater);
                    return;
                }
                divide(greater, lesser, quotient, greater);
                Nat old = greater;
                greater = lesser;
                lesser = old;
            }
            long x = greater.asLong();
            long y = lesser.asLong();
            for (int turn = 0; turn < MANY && y != 0; turn++) {
                long old = x % y;
                x = y;
                y = old;
            }
            into.setSmall(x);
        }

        private void reduce(Fraction value) {
            gcd(value.num, value.den, common);
            divide(value.num, common, partA, rest);
            divide(value.den, common, partB, rest);
            value.num.setTo(partA);
            value.den.setTo(partB);
        }

        /** Makes the numerator of into left and right with their signs added up. */
        private void join(int leftSign, int rightSign, Fraction into) {
            int greater = left.against(right);
            if (leftSign * rightSign >= 0) {
                into.num.setTo(left);
                into.num.plus(right);
                into.setSign(leftSign != 0 ? leftSign : rightSign);
            } else if (greater >= 0) {
                into.num.setTo(left);
                into.num.minus(right);
                into.setSign(leftSign);
            } else {
                into.num.setTo(right);
                into.num.minus(left);
                into.setSign(rightSign);
            }
        }

        /** a + b, or a - b; into is neither of them. It is in lowest terms with two gcds of small numbers. */
        private void add(Fraction a, Fraction b, boolean isLess, Fraction into) {
            gcd(a.den, b.den, common);
            divide(a.den, common, partA, rest);
            divide(b.den, common, partB, rest);
            left.setProduct(a.num, partB);
            right.setProduct(b.num, partA);
            join(a.sign, isLess ? -b.sign : b.sign, into);
            gcd(into.num, common, shared);
            divide(into.num, shared, left, rest);
            into.num.setTo(left);
            divide(b.den, shared, partB, rest);
            into.den.setProduct(partA, partB);
        }

        /** a * b; into is neither of them. */
        private void multiply(Fraction a, Fraction b, Fraction into) {
            gcd(a.num, b.den, common);
            gcd(b.num, a.den, shared);
            divide(a.num, common, partA, rest);
            divide(b.num, shared, partB, rest);
            into.num.setProduct(partA, partB);
            divide(a.den, shared, partA, rest);
            divide(b.den, common, partB, rest);
            into.den.setProduct(partA, partB);
            into.setSign(a.sign * b.sign);
        }

        /** 1 divided by a value that is not 0. */
        private Fraction inverse(Fraction a) {
            turned.num.setTo(a.den);
            turned.den.setTo(a.num);
            turned.sign = a.sign;
            return turned;
        }

        /** a % b, not yet in lowest terms; b is not 0. */
        private void remain(Fraction a, Fraction b, Fraction into) {
            left.setProduct(a.num, b.den);
            right.setProduct(b.num, a.den);
            divide(left, right, partA, into.num);
            if (a.sign * b.sign < 0 && !into.num.isZero()) {
                right.minus(into.num);
                into.num.setTo(right);
            }
            into.den.setProduct(a.den, b.den);
            into.setSign(b.sign);
        }

        /** med(a,b), not yet in lowest terms. */
        private void mediate(Fraction a, Fraction b, Fraction into) {
            left.setTo(a.num);
            right.setTo(b.num);
            join(a.sign, b.sign, into);
            into.den.setTo(a.den);
            into.den.plus(b.den);
        }

        /** a ^ exponent; what grows beyond values stays beyond them, and need not be worked to its end. */
        private void power(Fraction a, int exponent, Fraction into) {
            int often = Math.abs(exponent);
            multiplyOften(exponent < 0 ? a.den : a.num, often, into.num);
            multiplyOften(exponent < 0 ? a.num : a.den, often, into.den);
            into.setSign(a.sign < 0 && often % 2 != 0 ? -1 : 1);
        }

        private void multiplyOften(Nat base, int often, Nat into) {
            into.setSmall(1);
            for (int i = 0; i < often && into.fits(); i++) {
                left.setProduct(into, base);
                into.setTo(left);
            }
        }

        private void factorial(Fraction a, Fraction into) {
            // 29! is no value any more, so more factors need not be asked for
            int most = a.num.size > 1 ? MOST_EXPONENT : Math.min(a.num.limb(0), MOST_EXPONENT);
            into.num.setSmall(1);
            for (int factor = 2; factor <= most && into.num.fits(); factor++) {
                into.num.raise(factor, 0);
            }
            into.den.setSmall(1);
            into.sign = 1;
        }

        /** The floor, the ceil or the nearest whole number. */
        private void round(Fraction a, int step, Fraction into) {
            divide(a.num, a.den, into.num, rest);
            boolean isUp;
            if (step == NEAR) {
                rest.raise(2, 0);
                int half = rest.against(a.den);
                isUp = half > 0 || half == 0 && !into.num.isMultiple(2);
            } else {
                isUp = !rest.isZero() && (a.sign < 0) == (step == FLOOR);
            }
            if (isUp) {
                into.num.raise(1, 1);
            }
            into.den.setSmall(1);
            into.setSign(a.sign);
        }

        private void commonDivisor(Fraction a, Fraction b, Fraction into) {
            gcd(a.num, b.num, into.num);
            into.den.setSmall(1);
            into.setSign(1);
        }

        private void commonMultiple(Fraction a, Fraction b, Fraction into) {
            gcd(a.num, b.num, common);
            divide(a.num, common, partA, rest);
            into.num.setProduct(partA, b.num);
            into.den.setSmall(1);
            into.setSign(1);
        }

        private int order(Fraction a, Fraction b) {
            if (a.sign != b.sign) {
                return a.sign < b.sign ? -1 : 1;
            }
            left.setProduct(a.num, b.den);
            right.setProduct(b.num, a.den);
            return left.against(right) * a.sign;
        }

        private int countBelow(Row row, Fraction value) {
            int below = 0;
            while (below < row.values.length && order(row.values[below], value) < 0) {
                below++;
            }
            return below;
        }

        private Fraction totalOf(Fraction[] values, boolean isProduct) {
            Fraction total = first;
            Fraction next = second;
            total.num.setSmall(isProduct ? 1 : 0);
            total.den.setSmall(1);
            total.setSign(1);
            for (int i = 0; i < values.length; i++) {
                if (isProduct) {
                    multiply(total, values[i], next);
                } else {
                    add(total, values[i], false, next);
                }
                Fraction old = total;
                total = next;
                next = old;
            }
            return total;
        }

        private Fraction meanOf(Fraction[] values) {
            found.setTo(totalOf(values, false));
            turned.num.setSmall(1);
            turned.den.setSmall(Math.max(values.length, 1));
            turned.sign = 1;
            multiply(found, turned, first);
            return first;
        }

        /** Whether (a + b) - b is a, and (a * b) / b, if b is not 0. */
        private boolean isLawful(Fraction a, Fraction b) {
            add(a, b, false, first);
            add(first, b, true, second);
            if (!second.isSame(a)) {
                return false;
            }
            if (b.sign == 0) {
                return true;
            }
            multiply(a, b, first);
            multiply(first, inverse(b), second);
            return second.isSame(a);
        }

        /** The length of the part of the decimals that is ahead; leaves the core for lengthRepeating(). */
        private int lengthAhead(Fraction value) {
            core.setTo(value.den);
            int twos = 0;
            while (twos < MOST_DECIMALS && core.isMultiple(2)) {
                core.lower(2);
                twos++;
            }
            int fives = 0;
            while (fives < MOST_DECIMALS && core.isMultiple(5)) {
                core.lower(5);
                fives++;
            }
            return Math.max(twos, fives);
        }

        /** The length of the part that repeats, of the value whose part ahead was asked; NONE if above the limit. */
        private int lengthRepeating(int most) {
            if (core.isOne()) {
                return 0;
            }
            if (core.isLong() && core.asLong() < LEAST_GREAT_CORE) {
                return lengthRepeating(core.asLong(), most);
            }
            left.setSmall(1);
            for (int length = 1; length <= most; length++) {
                left.raise(10, 0);
                for (int i = 0; i < 9 && left.against(core) >= 0; i++) {
                    left.minus(core);
                }
                if (left.isOne()) {
                    return length;
                }
            }
            return NONE;
        }

        private int lengthRepeating(long divisor, int most) {
            long power = 1;
            for (int length = 1; length <= most && divisor > 0; length++) {
                power = power * 10 % divisor;
                if (power == 1) {
                    return length;
                }
            }
            return NONE;
        }

        /** Answers the whole part, and readies nextDecimals(). */
        private Nat startDecimals(Fraction value) {
            divide(value.num, value.den, partA, decimals);
            return partA;
        }

        /** The next up to 9 decimals, as one number. */
        private int nextDecimals(Fraction value, int length) {
            if (length < 0 || length >= TENS.length) {
                return 0;
            }
            decimals.raise(TENS[length], 0);
            divide(decimals, value.den, quotient, decimals);
            return quotient.limb(0);
        }

        /** Makes left the numerator of what is left of a value above its floor. */
        private void setAboveFloor(Fraction value) {
            divide(value.num, value.den, partA, left);
            if (value.sign < 0 && !left.isZero()) {
                right.setTo(value.den);
                right.minus(left);
                left.setTo(right);
            }
        }

        /** Counts the numbers of the continued form, and finds the one at a place, if there is one. */
        private int continuedForm(Fraction value, int place) {
            round(value, FLOOR, found);
            setAboveFloor(value);
            right.setTo(value.den);
            Nat upper = right;
            Nat lower = left;
            int length = 1;
            while (length < MANY && !lower.isZero()) {
                divide(upper, lower, partA, upper);
                if (length == place) {
                    found.num.setTo(partA);
                    found.sign = 1;
                }
                length++;
                Nat old = upper;
                upper = lower;
                lower = old;
            }
            return length;
        }

        /** Finds the best approximation; answers whether it is less than the value, the same or greater. */
        private int bestWithin(Fraction value, int bound) {
            round(value, FLOOR, found);
            setAboveFloor(value);
            right.setTo(value.den);
            right.minus(left);
            // Between lowNum/lowDen and highNum/highDen the value's part above the floor lies; left and right are
            // how far it is off them, times its denominator and theirs.
            int lowNum = 0;
            int lowDen = 1;
            int highNum = 1;
            int highDen = 1;
            while (lowDen + highDen <= bound && !left.isZero()) {
                if (left.against(right) >= 0) {
                    left.minus(right);
                    lowNum += highNum;
                    lowDen += highDen;
                } else {
                    right.minus(left);
                    highNum += lowNum;
                    highDen += lowDen;
                }
            }
            boolean isSame = left.isZero();
            left.raise(highDen, 0);
            right.raise(lowDen, 0);
            int nearer = left.against(right);
            boolean isLow = nearer < 0 || nearer == 0 && lowDen <= highDen;
            addSmall(isLow ? lowNum : highNum, isLow ? lowDen : highDen);
            return isSame ? 0 : isLow ? -1 : 1;
        }

        /** Adds a fraction from 0 to 1 to the whole number that was found. */
        private void addSmall(int num, int den) {
            first.setTo(found);
            second.num.setSmall(num);
            second.den.setSmall(den);
            second.setSign(1);
            add(first, second, false, found);
        }

        /** Counts the unit fractions, and finds the one at a place; NONE if there are none. */
        private int unitFractions(Fraction value, int place) {
            if (value.sign <= 0 || value.num.against(value.den) >= 0) {
                return NONE;
            }
            Fraction remaining = first;
            Fraction next = second;
            remaining.setTo(value);
            turned.num.setSmall(1);
            turned.sign = 1;
            for (int length = 0; length < MOST_UNITS; length++) {
                divide(remaining.den, remaining.num, turned.den, rest);
                if (!rest.isZero()) {
                    turned.den.raise(1, 1);
                }
                if (length == place) {
                    found.setTo(turned);
                }
                add(remaining, turned, true, next);
                if (!turned.fits() || !next.fits()) {
                    return NONE;
                }
                if (next.sign == 0) {
                    return length + 1;
                }
                Fraction old = remaining;
                remaining = next;
                next = old;
            }
            return NONE;
        }
    }

    /** A sum that was read, in the order in which it is worked: what a sign is applied to stands ahead of it. */
    private static final class Sum {
        private final int[] kinds;
        /** Of a NUMBER its index, of a NAME or a CALL its word, of a PARAMETER its index. */
        private final int[] operands;
        private final int[] places;
        /** With how many values what is called is called. */
        private final int[] counts;
        private final Fraction[] numbers;

        private Sum(int[] kinds, int[] operands, int[] places, int[] counts, Fraction[] numbers) {
            this.kinds = kinds;
            this.operands = operands;
            this.places = places;
            this.counts = counts;
            this.numbers = numbers;
        }
    }

    /** A name, or a function, that was told; it never changes. */
    private static final class Told {
        private final int word;
        /** 0 for a name. */
        private final int parameterCount;
        private final Sum sum;
        /** null for a function. */
        private final Fraction value;

        private Told(int word, int parameterCount, Sum sum, Fraction value) {
            this.word = word;
            this.parameterCount = parameterCount;
            this.sum = sum;
            this.value = value;
        }

        /** Orders words as a dictionary does: as if they were filled up to six letters with what is ahead of a. */
        private int key() {
            int key = word;
            for (int i = 0; i < 6 && key > 0 && key < 14348907; i++) {
                key *= 27;
            }
            return key;
        }
    }

    /**
     * The names and functions at one time. Its nodes are the names and then the functions, each in the order of a
     * dictionary; sets of nodes are the bits of an int.
     */
    private static final class Book {
        private final Told[] names;
        private final Told[] functions;
        private final int[] direct;
        private final int[] reach;

        private Book(Told[] names, Told[] functions) {
            this.names = names;
            this.functions = functions;
            direct = new int[names.length + functions.length];
            reach = new int[names.length + functions.length];
        }

        private Book with(Told told) {
            boolean isFunction = told.parameterCount > 0;
            Book next = new Book(isFunction ? names.clone() : placed(names, told),
                isFunction ? placed(functions, told) : functions);
            next.weave();
            return next;
        }

        private Book without(int node) {
            Book next = new Book(left(names, node), left(functions, node - names.length));
            next.weave();
            return next;
        }

        private static Told[] placed(Told[] all, Told told) {
            int place = 0;
            while (place < all.length && all[place].key() < told.key()) {
                place++;
            }
            boolean isNew = place >= all.length || all[place].word != told.word;
            Told[] next = new Told[isNew ? all.length + 1 : all.length];
            for (int i = 0; i < next.length; i++) {
                int from = isNew && i > place ? i - 1 : i;
                next[i] = i == place || from >= all.length ? told : all[from];
            }
            return next;
        }

        private static Told[] left(Told[] all, int place) {
            if (place < 0 || place >= all.length) {
                return all;
            }
            Told[] next = new Told[all.length - 1];
            for (int i = 0; i < next.length; i++) {
                next[i] = all[i < place ? i : i + 1];
            }
            return next;
        }

        /** Finds what each node uses, directly and by others. */
        private void weave() {
            for (int i = 0; i < direct.length; i++) {
                Told told = toldAt(i);
                direct[i] = told == null ? 0 : usedBy(told.sum);
                reach[i] = direct[i];
            }
            for (int by = 0; by < reach.length; by++) {
                for (int i = 0; i < reach.length; i++) {
                    if ((reach[i] >>> by & 1) != 0) {
                        reach[i] |= reach[by];
                    }
                }
            }
        }

        private int find(int word, boolean isFunction) {
            Told[] all = isFunction ? functions : names;
            for (int i = 0; i < all.length; i++) {
                if (all[i].word == word) {
                    return isFunction ? names.length + i : i;
                }
            }
            return NONE;
        }

        private Told toldAt(int node) {
            if (node < 0 || node >= names.length + functions.length) {
                return null;
            }
            return node < names.length ? names[node] : functions[node - names.length];
        }

        private int parametersOf(int node) {
            Told told = toldAt(node);
            return told == null ? 0 : told.parameterCount;
        }

        /** The number of the word, with a minus if it is that of a function. */
        private int signedWordOf(int node) {
            Told told = toldAt(node);
            if (told == null) {
                return 0;
            }
            return told.parameterCount > 0 ? -told.word : told.word;
        }

        /** The place of the first word that is no name, or no function with so many values; NONE if there is none. */
        private int firstUnknown(Sum sum) {
            int firstPlace = NONE;
            for (int i = 0; i < sum.kinds.length; i++) {
                if (!isKnown(sum, i) && (firstPlace == NONE || sum.places[i] < firstPlace)) {
                    firstPlace = sum.places[i];
                }
            }
            return firstPlace;
        }

        private boolean isKnown(Sum sum, int at) {
            int kind = sum.kinds[at];
            if (kind == NAME) {
                return find(sum.operands[at], false) != NONE;
            }
            if (kind == CALL) {
                int node = find(sum.operands[at], true);
                return node != NONE && parametersOf(node) == sum.counts[at];
            }
            return kind < GCD || kind > MAX || sum.counts[at] == valuesOf(kind);
        }

        /** The set of what stands in a sum. */
        private int usedBy(Sum sum) {
            int used = 0;
            for (int i = 0; i < sum.kinds.length; i++) {
                if (sum.kinds[i] == NAME || sum.kinds[i] == CALL) {
                    int node = find(sum.operands[i], sum.kinds[i] == CALL);
                    used |= node == NONE ? 0 : 1 << node;
                }
            }
            return used;
        }

        private int directFrom(int node) {
            return node >= 0 && node < direct.length ? direct[node] : 0;
        }

        private boolean isUsing(int user, int used) {
            return user >= 0 && user < reach.length && (reach[user] >>> used & 1) != 0;
        }

        private boolean isUsed(int node) {
            for (int i = 0; i < reach.length; i++) {
                if (isUsing(i, node)) {
                    return true;
                }
            }
            return false;
        }

        /** The set of the names that use a node. */
        private int usersOf(int node) {
            int users = 0;
            for (int i = 0; i < names.length && node != NONE; i++) {
                if (isUsing(i, node)) {
                    users |= 1 << i;
                }
            }
            return users;
        }

        private boolean leadsTo(int used, int node) {
            return firstTowards(used, node) != NONE;
        }

        /** The first of a set that is the node, or uses it. */
        private int firstTowards(int used, int node) {
            for (int i = 0; i < reach.length; i++) {
                if ((used >>> i & 1) != 0 && (i == node || isUsing(i, node))) {
                    return i;
                }
            }
            return NONE;
        }

        /** The first of a set of names that uses none of the set. */
        private int firstReady(int set) {
            for (int i = 0; i < names.length; i++) {
                if ((set >>> i & 1) != 0 && (reach[i] & set) == 0) {
                    return i;
                }
            }
            return NONE;
        }
    }

    /** Values in ascending order; it never changes. */
    private static final class Row {
        private final Fraction[] values;

        private Row(int length) {
            values = new Fraction[Math.max(length, 0)];
        }

        private Row with(Fraction value, int place) {
            Row next = new Row(values.length + 1);
            for (int i = 0; i < next.values.length; i++) {
                int from = i > place ? i - 1 : i;
                next.values[i] = i == place || from >= values.length ? value : values[from];
            }
            return next;
        }

        private Row without(int place) {
            Row next = new Row(values.length - 1);
            for (int i = 0; i < next.values.length; i++) {
                next.values[i] = values[i < place ? i : i + 1];
            }
            return next;
        }

        /** Counts the values from a place on that are the same as one. */
        private int countSame(int from, Fraction value) {
            int same = 0;
            while (from >= 0 && from + same < values.length && values[from + same].isSame(value)) {
                same++;
            }
            return same;
        }
    }

    /** All that can be undone, at one time; it never changes. */
    private static final class State {
        private final Book book;
        private final Row[] rows;

        private State() {
            book = new Book(new Told[0], new Told[0]);
            rows = new Row[ROWS];
            for (int i = 0; i < rows.length; i++) {
                rows[i] = new Row(0);
            }
        }

        private State(Book book, Row[] rows) {
            this.book = book;
            this.rows = rows;
        }

        private State withRow(int place, Row row) {
            Row[] next = rows.clone();
            if (place >= 0 && place < next.length) {
                next[place] = row;
            }
            return new State(book, next);
        }
    }

    /** The steps of a line, with what each one gave; used again for a later line. */
    private static final class Steps {
        private final int[] kinds = new int[MOST_STEPS];
        private final Fraction[] gave = new Fraction[MOST_STEPS];
        private int length;

        private void note(int kind, Fraction value) {
            if (length >= kinds.length) {
                return;
            }
            if (gave[length] == null) {
                gave[length] = new Fraction();
            }
            gave[length].setTo(value);
            kinds[length] = kind;
            length++;
        }
    }

    /** Works sums: each function that is called is a level above what calls it. */
    private static final class Machine {
        /** On a level 12 open signs leave at most some 70 values waiting, and there are at most 11 levels. */
        private static final int MOST_WAITING = 1000;
        private static final int MOST_LEVELS = MOST_FUNCTIONS + 1;

        private final Fraction[] stack = new Fraction[MOST_WAITING];
        private int top;
        private final Sum[] sums = new Sum[MOST_LEVELS];
        private final int[] nexts = new int[MOST_LEVELS];
        private final int[] bases = new int[MOST_LEVELS];
        private int level;
        private int done;
        /** Where the line is worked, in its own text: also while functions that it calls are. */
        private int place;
        /** What was put on the stack last; behind work() the value of the sum. */
        private final Fraction given = new Fraction();

        /** Answers the cause if it is refused, else 0; what it gives is given. */
        private int work(Sum sum, Book book, Steps noted, Reckoner reckoner) {
            top = 0;
            done = 0;
            level = 0;
            begin(sum, 0);
            for (int turn = 0; turn < MANY; turn++) {
                Sum here = sums[level];
                int at = nexts[level];
                int why;
                if (at >= here.kinds.length) {
                    if (level == 0) {
                        return 0;
                    }
                    why = leave(noted);
                } else {
                    nexts[level] = at + 1;
                    if (level == 0) {
                        place = here.places[at];
                    }
                    int kind = here.kinds[at];
                    if (kind == CALL) {
                        why = enter(book.toldAt(book.find(here.operands[at], true)));
                    } else if (kind >= NUMBER) {
                        why = push(valueAt(here, at, book));
                    } else {
                        why = objection(kind);
                        if (why == 0) {
                            calculate(kind, stack[top - valuesOf(kind)], stack[top - 1], reckoner);
                            why = given.fits() ? finish(kind, valuesOf(kind), noted) : GREAT;
                        }
                    }
                }
                if (why != 0) {
                    return why;
                }
            }
            return LONG;
        }

        private void begin(Sum sum, int values) {
            sums[level] = sum;
            nexts[level] = 0;
            bases[level] = top - values;
        }

        private Fraction valueAt(Sum sum, int at, Book book) {
            int operand = sum.operands[at];
            if (sum.kinds[at] == NUMBER) {
                return operand >= 0 && operand < sum.numbers.length ? sum.numbers[operand] : null;
            }
            if (sum.kinds[at] == PARAMETER) {
                int index = bases[level] + operand;
                return index >= 0 && index < top ? stack[index] : null;
            }
            Told name = book.toldAt(book.find(operand, false));
            return name == null ? null : name.value;
        }

        private int push(Fraction value) {
            if (value == null || top >= stack.length) {
                return GREAT;
            }
            if (stack[top] == null) {
                stack[top] = new Fraction();
            }
            stack[top].setTo(value);
            top++;
            given.setTo(value);
            return 0;
        }

        /** Begins the sum of a function, whose values wait on the stack. */
        private int enter(Told function) {
            if (function == null || level + 1 >= sums.length || function.parameterCount > top) {
                return LONG;
            }
            level++;
            begin(function.sum, function.parameterCount);
            return 0;
        }

        /** Ends the sum of a function: what it gave takes the place of it and of the values that it was called with. */
        private int leave(Steps noted) {
            if (done >= MOST_STEPS) {
                return LONG;
            }
            int used = top - bases[level];
            level--;
            return finish(CALL, used, noted);
        }

        /** Ends a step: what is given takes the place of the values that it used. */
        private int finish(int kind, int used, Steps noted) {
            done++;
            if (noted != null) {
                noted.note(kind, given);
            }
            top -= used;
            return push(given);
        }

        /** Answers why a step cannot be worked, else 0. */
        private int objection(int kind) {
            if (done >= MOST_STEPS || top < valuesOf(kind)) {
                return LONG;
            }
            Fraction a = stack[top - valuesOf(kind)];
            Fraction b = stack[top - 1];
            switch (kind) {
                case OVER: case REST:
                    return b.sign == 0 ? ZERO : 0;
                case POWER:
                    if (!b.isWhole() || b.num.size > 1 || b.num.limb(0) > MOST_EXPONENT) {
                        return WHOLE;
                    }
                    return a.sign == 0 && b.sign < 0 ? ZERO : 0;
                case FACTORIAL:
                    return a.isWhole() && a.sign >= 0 ? 0 : WHOLE;
                case GCD: case LCM:
                    return a.isWhole() && b.isWhole() ? 0 : WHOLE;
                default:
                    return 0;
            }
        }

        /** Works a step; one of one value is worked with a alone. */
        private void calculate(int kind, Fraction a, Fraction b, Reckoner reckoner) {
            switch (kind) {
                case PLUS: case MINUS:
                    reckoner.add(a, b, kind == MINUS, given);
                    break;
                case TIMES:
                    reckoner.multiply(a, b, given);
                    break;
                case OVER:
                    reckoner.multiply(a, reckoner.inverse(b), given);
                    break;
                case REST:
                    reckoner.remain(a, b, given);
                    reckoner.reduce(given);
                    break;
                case POWER:
                    reckoner.power(a, b.sign * b.num.limb(0), given);
                    break;
                case FACTORIAL:
                    reckoner.factorial(a, given);
                    break;
                case NEGATIVE: case ABS:
                    given.setTo(a);
                    given.sign = kind == ABS ? Math.abs(a.sign) : -a.sign;
                    break;
                case GCD:
                    reckoner.commonDivisor(a, b, given);
                    break;
                case LCM:
                    reckoner.commonMultiple(a, b, given);
                    break;
                case FLOOR: case CEIL: case NEAR:
                    reckoner.round(a, kind, given);
                    break;
                case MED:
                    reckoner.mediate(a, b, given);
                    reckoner.reduce(given);
                    break;
                case NUM: case DEN:
                    given.setWhole(kind == NUM ? a.num : a.den, kind == NUM ? a.sign : 1);
                    break;
                default:
                    given.setTo(reckoner.order(a, b) < 0 == (kind == MIN) ? a : b);
            }
        }
    }

    /** Reads the line on the tape by its grammar; what it tells of a line holds until the next one is read. */
    private static final class Reader {
        // Kinds of tokens; a sign is its own byte, which is above them.
        private static final int END = 0;
        private static final int WORD_TOKEN = 1;
        private static final int NUMBER_TOKEN = 2;
        private static final int NO_TOKEN = 3;

        private final int[] text = new int[MOST_BYTES];
        private int textLength;

        private final int[] tokens = new int[MOST_BYTES + 1];
        private final int[] starts = new int[MOST_BYTES + 1];
        private final int[] words = new int[MOST_BYTES + 1];
        private int tokenCount;
        private int next;

        private final int[] kinds = new int[MOST_BYTES];
        private final int[] operands = new int[MOST_BYTES];
        private final int[] places = new int[MOST_BYTES];
        private final int[] counts = new int[MOST_BYTES];
        private int length;
        private int numberCount;

        private int form;
        private int word;
        private int wordPlace;
        private final int[] parameterWords = new int[MOST_PARAMETERS];
        private int parameterCount;
        private Sum sum;

        /** Answers the error position, NONE without an error. */
        private int read(int[] tape, int tapeLength, Reckoner reckoner) {
            textLength = Math.min(tapeLength, Math.min(tape.length, text.length));
            for (int i = 0; i < textLength; i++) {
                text[i] = tape[i];
            }
            findTokens();
            length = 0;
            numberCount = 0;
            parameterCount = 0;
            next = 0;
            if (!head() || !readSum(0) || tokenAt(next) != END) {
                return startAt(next);
            }
            sum = new Sum(Arrays.copyOf(kinds, length), Arrays.copyOf(operands, length),
                Arrays.copyOf(places, length), Arrays.copyOf(counts, length), readNumbers(reckoner));
            return NONE;
        }

        private int byteAt(int at) {
            return at >= 0 && at < textLength ? text[at] : 0;
        }

        private boolean isDigit(int at) {
            return byteAt(at) >= '0' && byteAt(at) <= '9';
        }

        private boolean isLetter(int at) {
            return byteAt(at) >= 'a' && byteAt(at) <= 'z';
        }

        private int endOfDigits(int from) {
            int at = from;
            while (at < textLength && isDigit(at)) {
                at++;
            }
            return at;
        }

        /** Finds the tokens up to the end of the text, or to the first that is none. */
        private void findTokens() {
            tokenCount = 0;
            int at = 0;
            for (int turn = 0; turn <= MOST_BYTES; turn++) {
                while (at < textLength && (byteAt(at) == ' ' || byteAt(at) == '\n')) {
                    at++;
                }
                starts[turn] = at;
                tokens[turn] = tokenFrom(at);
                tokenCount = turn + 1;
                if (tokens[turn] == END || tokens[turn] == NO_TOKEN) {
                    return;
                }
                if (tokens[turn] == WORD_TOKEN) {
                    words[turn] = wordFrom(at);
                }
                at = endOfToken(at, tokens[turn]);
            }
        }

        private int tokenFrom(int at) {
            if (at >= textLength) {
                return END;
            }
            if (isLetter(at)) {
                return endOfWord(at) - at > 6 ? NO_TOKEN : WORD_TOKEN;
            }
            if (isDigit(at)) {
                return endOfNumber(at) == NONE ? NO_TOKEN : NUMBER_TOKEN;
            }
            switch (byteAt(at)) {
                case '=': case '(': case ')': case ',': case '+': case '-': case '*': case '/': case '%':
                case '^': case '!':
                    return byteAt(at);
                default:
                    return NO_TOKEN;
            }
        }

        private int endOfToken(int at, int token) {
            if (token == WORD_TOKEN) {
                return endOfWord(at);
            }
            return token == NUMBER_TOKEN ? endOfNumber(at) : at + 1;
        }

        private int endOfWord(int from) {
            int at = from;
            while (at < textLength && isLetter(at)) {
                at++;
            }
            return at;
        }

        private int wordFrom(int from) {
            int number = 0;
            for (int at = from; at < from + 6 && isLetter(at); at++) {
                number = number * 27 + byteAt(at) - 'a' + 1;
            }
            return number;
        }

        /** Where a NUMBER ends; NONE if it is no token. */
        private int endOfNumber(int from) {
            int point = endOfDigits(from);
            if (point - from > 12) {
                return NONE;
            }
            if (byteAt(point) != '.') {
                return point;
            }
            int end = endOfDigits(point + 1);
            if (end - point > 7) {
                return NONE;
            }
            if (byteAt(end) != '[') {
                return end == point + 1 ? NONE : end;
            }
            int close = endOfDigits(end + 1);
            if (close == end + 1 || close - end > 7 || byteAt(close) != ']') {
                return NONE;
            }
            return close + 1;
        }

        private Fraction[] readNumbers(Reckoner reckoner) {
            Fraction[] numbers = new Fraction[numberCount];
            for (int i = 0; i < length; i++) {
                if (kinds[i] == NUMBER && operands[i] < numbers.length) {
                    numbers[operands[i]] = numberFrom(places[i], reckoner);
                }
            }
            return numbers;
        }

        private Fraction numberFrom(int from, Reckoner reckoner) {
            long above = 0;
            long below = 1;
            int at = from;
            boolean isBehind = false;
            for (; at < textLength && (isDigit(at) || byteAt(at) == '.' && !isBehind); at++) {
                if (byteAt(at) == '.') {
                    isBehind = true;
                } else {
                    above = above * 10 + byteAt(at) - '0';
                    below = isBehind ? below * 10 : below;
                }
            }
            Fraction value = new Fraction();
            value.num.setSmall(above);
            if (isBehind && byteAt(at) == '[') {
                int again = 0;
                int tens = 1;
                for (at++; isDigit(at) && tens < 1000000; at++) {
                    again = again * 10 + byteAt(at) - '0';
                    tens *= 10;
                }
                // what repeats is its digits divided by as many nines
                value.num.raise(tens - 1, again);
                below *= tens - 1;
            }
            value.den.setSmall(below);
            value.setSign(1);
            reckoner.reduce(value);
            return value;
        }

        private int tokenAt(int at) {
            return at >= 0 && at < tokenCount ? tokens[at] : END;
        }

        private int startAt(int at) {
            return at >= 0 && at < tokenCount ? starts[at] : textLength;
        }

        private int wordAt(int at) {
            return at >= 0 && at < tokenCount ? words[at] : 0;
        }

        private int formAhead() {
            if (tokenAt(0) != WORD_TOKEN) {
                return SUM;
            }
            if (tokenAt(1) == '=') {
                return NAME_LINE;
            }
            int at = 2;
            while (at < tokenCount && tokenAt(at) == WORD_TOKEN && tokenAt(at + 1) == ',') {
                at += 2;
            }
            boolean isFunction = tokenAt(1) == '(' && tokenAt(at) == WORD_TOKEN && tokenAt(at + 1) == ')'
                && tokenAt(at + 2) == '=';
            return isFunction ? FUNCTION_LINE : SUM;
        }

        /** Reads what stands up to the =, if there is one. Where it answers false, the next token does not fit. */
        private boolean head() {
            form = formAhead();
            if (form == SUM) {
                return true;
            }
            word = wordAt(0);
            wordPlace = startAt(0);
            next = 2;
            if (form == NAME_LINE) {
                return true;
            }
            boolean isLast = false;
            while (!isLast && next < tokenCount) {
                int given = wordAt(next);
                if (parameterCount >= parameterWords.length || parameterOf(given) != NONE) {
                    return false;
                }
                parameterWords[parameterCount] = given;
                parameterCount++;
                isLast = tokenAt(next + 1) == ')';
                next += 2;
            }
            next++;
            return true;
        }

        private int parameterOf(int asked) {
            for (int i = 0; i < parameterCount && i < parameterWords.length; i++) {
                if (parameterWords[i] == asked) {
                    return i;
                }
            }
            return NONE;
        }

        private void emit(int kind, int operand, int place, int count) {
            if (length < kinds.length) {
                kinds[length] = kind;
                operands[length] = operand;
                places[length] = place;
                counts[length] = count;
                length++;
            }
        }

        private boolean readSum(int open) {
            if (!readProduct(open)) {
                return false;
            }
            while (next < tokenCount && (tokenAt(next) == '+' || tokenAt(next) == '-')) {
                int step = tokenAt(next) == '+' ? PLUS : MINUS;
                int place = startAt(next);
                next++;
                if (!readProduct(open)) {
                    return false;
                }
                emit(step, 0, place, 0);
            }
            return true;
        }

        private boolean readProduct(int open) {
            if (!readMinus(open)) {
                return false;
            }
            while (next < tokenCount && productStep(tokenAt(next)) != 0) {
                int step = productStep(tokenAt(next));
                int place = startAt(next);
                next++;
                if (!readMinus(open)) {
                    return false;
                }
                emit(step, 0, place, 0);
            }
            return true;
        }

        private static int productStep(int token) {
            switch (token) {
                case '*':
                    return TIMES;
                case '/':
                    return OVER;
                case '%':
                    return REST;
                default:
                    return 0;
            }
        }

        /** Reads a minus of the grammar, with the power and the fact that it can be. */
        private boolean readMinus(int open) {
            int place = startAt(next);
            if (tokenAt(next) == '-') {
                if (!readOpened(open)) {
                    return false;
                }
                emit(NEGATIVE, 0, place, 0);
                return true;
            }
            if (!readPlain(open)) {
                return false;
            }
            while (next < tokenCount && tokenAt(next) == '!') {
                emit(FACTORIAL, 0, startAt(next), 0);
                next++;
            }
            if (tokenAt(next) == '^') {
                place = startAt(next);
                if (!readOpened(open)) {
                    return false;
                }
                emit(POWER, 0, place, 0);
            }
            return true;
        }

        /** Reads the sign - or ^, which is open until the minus behind it is read, and this minus. */
        private boolean readOpened(int open) {
            if (open >= MOST_OPEN) {
                return false;
            }
            next++;
            return readMinus(open + 1);
        }

        private boolean readPlain(int open) {
            int place = startAt(next);
            if (tokenAt(next) == NUMBER_TOKEN) {
                emit(NUMBER, numberCount, place, 0);
                numberCount++;
                next++;
                return true;
            }
            if (tokenAt(next) == WORD_TOKEN) {
                int said = wordAt(next);
                next++;
                return tokenAt(next) == '(' ? readCall(said, place, open) : readWord(said, place);
            }
            if (tokenAt(next) != '(' || open >= MOST_OPEN) {
                return false;
            }
            next++;
            if (!readSum(open + 1) || tokenAt(next) != ')') {
                return false;
            }
            next++;
            return true;
        }

        private boolean readWord(int said, int place) {
            int parameter = parameterOf(said);
            if (parameter == NONE) {
                emit(NAME, said, place, 0);
            } else {
                emit(PARAMETER, parameter, place, 0);
            }
            return true;
        }

        private boolean readCall(int said, int place, int open) {
            if (open >= MOST_OPEN) {
                return false;
            }
            int values = 0;
            boolean isMore = true;
            while (isMore && next < tokenCount) {
                next++;
                if (!readSum(open + 1)) {
                    return false;
                }
                values++;
                isMore = tokenAt(next) == ',';
            }
            if (tokenAt(next) != ')') {
                return false;
            }
            next++;
            int step = stepOf(said);
            emit(step == 0 ? CALL : step, said, place, values);
            return true;
        }
    }
}
