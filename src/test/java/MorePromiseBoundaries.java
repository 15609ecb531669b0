/** The sentences of the promises 29 to 49: decimals, approximations, rows, undo, figures. */
final class MorePromiseBoundaries extends Quoting {
    private MorePromiseBoundaries(Report report, Sentences sentences) {
        super(report, sentences);
    }

    static void runAll(Report report, Sentences sentences) {
        MorePromiseBoundaries tests = new MorePromiseBoundaries(report, sentences);
        tests.ends();
        tests.ahead();
        tests.repeating();
        tests.decimal();
        tests.continued();
        tests.takeContinued();
        tests.takeBest();
        tests.units();
        tests.takeUnit();
        tests.put();
        tests.out();
        tests.empty();
        tests.count();
        tests.takeLeast();
        tests.takeNext();
        tests.takeAll();
        tests.takeAllOfGreatOnes();
        tests.undo();
        tests.redo();
        tests.meanDigits();
        tests.wholes();
        tests.errors();
        tests.end();
    }

    private void ends() {
        Talk t = new Talk();
        says("Promise 29", "Tells whether the decimals of the answer end. Returns whether they do.");
        is("0", t.x.ends(), true);
        for (String value : new String[] {"7", "-7", "1/2", "-3/5", "2^-99", "5^-42", GREATEST + "/(10^29)"}) {
            is(value, t.run(value) + " " + t.x.ends(), "0 true");
        }
        for (String value : new String[] {"1/3", "-1/6", "1/" + GREATEST, "10^29/7", "1/3*(2^-90)"}) {
            is(value, t.run(value) + " " + t.x.ends(), "0 false");
        }
    }

    private void ahead() {
        Talk t = new Talk();
        says("Promise 30", "Returns the length of the part of the decimals that is ahead of the one that repeats. Returns"
            + " how many digits it has.");
        String[] values = {"0", "-7", "1/3", "1/6", "-1/12", "1/2", "1/40", "1/625", "1/5000", "2^-99", "5^-42",
            "10^-29", "1/3*(2^-97)", "1/" + GREATEST};
        int[] due = {0, 0, 0, 1, 2, 1, 3, 4, 4, 99, 42, 29, 97, 0};
        for (int i = 0; i < values.length; i++) {
            is(values[i], t.run(values[i]) + " " + t.x.ahead(), "0 " + due[i]);
        }
    }

    private void repeating() {
        Talk t = new Talk();
        says("Promise 31", "Returns the length of the part of the decimals that repeats. Returns how many digits it has; 0"
            + " if they end; NONE if there are more than 1000.");
        String[] values = {"0", "7", "-1/8", "-1/3", "1/7", "1/700", "10/97", "1/60101", "1/1999", "1/24001", "1/2003",
            "1/48049", "1/24001/10", "1/2003/10", "1/" + GREATEST, "1/(10^29+1)", "1/(10^29+7)", "1/(101^14)",
            "1/(24001*60101*27961*21401*5051)", "1/(24001*60101*27961*21401*5051*11)", "1/(2003*21649*513239*53*79)",
            "1/(24001*60101*27961*21401*5051*7)"};
        int[] due = {0, 0, 0, 1, 6, 6, 96, 100, 999, 1000, -1, -1, 1000, -1, 30, 58, -1, -1, 1000, 1000, -1, -1};
        for (int i = 0; i < values.length; i++) {
            is(values[i], t.run(values[i]) + " " + t.x.repeating(), "0 " + due[i]);
        }
    }

    private void decimal() {
        Talk t = new Talk();
        says("Promise 32", "Returns a digit of the decimals behind the point.");
        t.run("-22/7");
        StringBuilder all = new StringBuilder();
        for (int i = 1; i <= 30; i++) {
            all.append(t.x.decimal(i));
        }
        is("of a value below 0", all.toString(), "142857".repeat(5));
        is("of one that ends", t.run("17/40") + " " + t.x.decimal(1) + t.x.decimal(2) + t.x.decimal(3) + t.x.decimal(4)
            + t.x.decimal(1000), "0 42500");
        is("of a whole one", t.run("7") + " " + t.x.decimal(1) + t.x.decimal(1000), "0 00");
        is("of the greatest and the smallest", t.run(GREATEST + "/(" + GREATEST + "-1)") + " " + t.x.decimal(1)
            + t.x.decimal(29) + t.x.decimal(30) + t.x.decimal(31), "0 0010");
        says("Promise 32", "- place: 1 for the first one, up to 1000");
        is("1/24001", t.run("1/24001") + " " + t.x.decimal(1) + t.x.decimal(5) + t.x.decimal(1000), "0 049");
        is("1/1999", t.run("1/1999") + " " + t.x.decimal(4) + t.x.decimal(998) + t.x.decimal(999) + t.x.decimal(1000),
            "0 5010");
        is("1/(10^29-1)", t.run("1/(10^29-1)") + " " + t.x.decimal(29) + t.x.decimal(30) + t.x.decimal(58)
            + t.x.decimal(986) + t.x.decimal(987), "0 10110");
        says("Promise 32", "Returns 0 to 9.");
        t.run("0.123456[789]");
        all.setLength(0);
        for (int i = 1; i <= 12; i++) {
            all.append(t.x.decimal(i));
        }
        is("all", all.toString(), "123456789789");
        says("Promise 32", "Throws IllegalArgumentException if place is out of range");
        call("0", () -> t.x.decimal(0), BAD);
        call("-1", () -> t.x.decimal(-1), BAD);
        call("1001", () -> t.x.decimal(1001), BAD);
        for (int k : FAR) {
            call(k + "", () -> t.x.decimal(k), BAD);
        }
    }

    private void continued() {
        Talk t = new Talk();
        says("Promise 33", "Counts the numbers of the continued form of the answer. Returns how many there are.");
        String[] values = {"0", "5", "-5", "1/2", "-1/2", "2/3", "43/30", "-43/30", GREATEST, "1/" + GREATEST,
            "-1/" + GREATEST, "8/13"};
        int[] due = {1, 1, 1, 2, 2, 3, 4, 5, 1, 2, 3, 6};
        for (int i = 0; i < values.length; i++) {
            is(values[i], t.run(values[i]) + " " + t.x.continued() + " " + t.fraction().isEmpty(), "0 " + due[i]
                + " false");
        }
        is("the answer stays", t.fraction(), "8/13");
    }

    private void takeContinued() {
        Talk t = new Talk();
        says("Promise 34", "Makes the answer a number of its continued form.");
        is("the last one", t.run("43/30") + " " + t.x.takeContinued(3) + t.fraction(), "0 14");
        is("of what it is then", t.x.takeContinued(0) + t.fraction() + t.x.continued(), "141");
        says("Promise 34", "- place: 0 for the floor");
        is("above 0", t.run("43/30") + " " + t.x.takeContinued(0) + t.fraction(), "0 11");
        is("below 0", t.run("-43/30") + " " + t.x.takeContinued(0) + t.fraction(), "0 -1-2");
        is("between", t.run("29/30") + " " + t.x.takeContinued(0) + t.fraction(), "0 00");
        is("between 0 and -1", t.run("-1/30") + " " + t.x.takeContinued(0) + t.fraction(), "0 -1-1");
        says("Promise 34", "Returns its sign.");
        is("the second one", t.run("-1/30") + " " + t.x.takeContinued(1) + t.fraction(), "0 11");
        is("the greatest", t.run("-1/" + GREATEST) + " " + t.x.takeContinued(2) + t.fraction(),
            "0 1" + "9".repeat(29) + "8");
        says("Promise 34", "Throws IndexOutOfBoundsException if there is no such place");
        t.run("-43/30");
        call("5", () -> t.x.takeContinued(5), OUT);
        call("-1", () -> t.x.takeContinued(-1), OUT);
        for (int k : FAR) {
            call(k + "", () -> t.x.takeContinued(k), OUT);
        }
        is("the answer stays", t.fraction(), "-43/30");
        t.run("7");
        call("1 of a whole value", () -> t.x.takeContinued(1), OUT);
    }

    private void takeBest() {
        Talk t = new Talk();
        says("Promise 35", "Makes the answer its best approximation by a bound.");
        is("one", t.run("0.3[3]+0.001") + " " + t.x.takeBest(10) + t.fraction(), "0 -11/3");
        says("Promise 35", "- bound: 1 to 1000");
        is("1", t.run("7/1000") + " " + t.x.takeBest(1) + t.fraction(), "0 -10");
        is("1000", t.run("7/1000") + " " + t.x.takeBest(1000) + t.fraction(), "0 07/1000");
        is("999 of 999", t.run("-998/999") + " " + t.x.takeBest(999) + t.fraction(), "0 0-998/999");
        is("998 of 999", t.run("-998/999") + " " + t.x.takeBest(998) + t.fraction(), "0 1-997/998");
        is("1000 of 1001", t.run("1000/1001") + " " + t.x.takeBest(1000) + t.fraction(), "0 -1999/1000");
        says("Promise 35", "Returns 0 if it is the same value, 1 if it is greater, -1 if it is less than the answer was.");
        is("0", t.run("0") + " " + t.x.takeBest(1) + t.fraction(), "0 00");
        is("the same", t.run("-5/3") + " " + t.x.takeBest(3) + t.fraction(), "0 0-5/3");
        is("greater", t.run("-5/3") + " " + t.x.takeBest(2) + t.fraction(), "0 1-3/2");
        is("less", t.run("5/3") + " " + t.x.takeBest(2) + t.fraction(), "0 -13/2");
        is("two as near", t.run("3/2") + " " + t.x.takeBest(1) + t.fraction(), "0 -11");
        is("two as near below 0", t.run("-3/2") + " " + t.x.takeBest(1) + t.fraction(), "0 -1-2");
        says("Promise 35", "Throws IllegalArgumentException if bound is out of range");
        t.run("1/3");
        call("0", () -> t.x.takeBest(0), BAD);
        call("-1", () -> t.x.takeBest(-1), BAD);
        call("1001", () -> t.x.takeBest(1001), BAD);
        for (int k : FAR) {
            call(k + "", () -> t.x.takeBest(k), BAD);
        }
        is("the answer stays", t.fraction(), "1/3");
    }

    private void units() {
        Talk t = new Talk();
        says("Promise 36", "Counts the unit fractions of the answer.");
        is("4/13", t.run("4/13") + " " + t.x.units() + t.fraction(), "0 34/13");
        says("Promise 36", "Returns how many there are; NONE if the answer is not above 0 and below 1, or there are none"
            + " (section 6).");
        is("1/2", t.run("1/2") + " " + t.x.units(), "0 1");
        is("the smallest", t.run("1/" + GREATEST) + " " + t.x.units(), "0 1");
        is("eight", t.run("217/218") + " " + t.x.units(), "0 8");
        for (String none : new String[] {"0", "1", "-1", "-1/2", "2", "3/2", GREATEST, "44/53", "1-1/" + GREATEST}) {
            is(none, t.run(none) + " " + t.x.units(), "0 -1");
        }
    }

    private void takeUnit() {
        Talk t = new Talk();
        says("Promise 37", "Makes the answer one of its unit fractions.");
        is("the second", t.run("4/13") + " " + t.x.takeUnit(1) + t.fraction(), "0 21/18");
        is("of what it is then", t.x.takeUnit(0) + t.fraction(), "21/18");
        says("Promise 37", "- place: 0 for the greatest one");
        is("the greatest", t.run("4/13") + " " + t.x.takeUnit(0) + t.fraction(), "0 11/4");
        is("the last of eight", t.run("217/218") + " " + t.x.takeUnit(7) + t.fraction(),
            "0 301/157067169584790062146886874600");
        says("Promise 37", "Returns the number of digits of its denominator.");
        is("3", t.run("4/13") + " " + t.x.takeUnit(2), "0 3");
        is("30", t.run("1/" + GREATEST) + " " + t.x.takeUnit(0), "0 30");
        says("Promise 37", "Throws IndexOutOfBoundsException if there is no such place");
        t.run("4/13");
        call("3", () -> t.x.takeUnit(3), OUT);
        call("-1", () -> t.x.takeUnit(-1), OUT);
        for (int k : FAR) {
            call(k + "", () -> t.x.takeUnit(k), OUT);
        }
        is("the answer stays", t.fraction(), "4/13");
        for (String none : new String[] {"0", "1", "-1/2", "3/2", "44/53"}) {
            t.run(none);
            call("0 of " + none, () -> t.x.takeUnit(0), OUT);
            call("-1 of " + none, () -> t.x.takeUnit(-1), OUT);
        }
        t.run("217/218");
        call("8 of 8", () -> t.x.takeUnit(8), OUT);
    }

    private void put() {
        Talk t = new Talk();
        says("Promise 38", "The answer comes into a row.");
        is("one", t.run("1/3") + " " + t.x.put(1) + " " + rowOf(t, 1), "0 1 1/3");
        says("Promise 38", "- row: 0 to 2");
        is("both ends", t.x.put(0) + " " + t.x.put(2) + rowsOf(t), "1 1 row 1/3 row 1/3 row 1/3");
        says("Promise 38", "Returns the number of values of the row afterwards.");
        for (int i = 2; i <= 50; i++) {
            is("value " + i, t.x.put(2), i);
        }
        says("Promise 38", "Throws IllegalArgumentException if row is out of range");
        call("3", () -> t.x.put(3), BAD);
        call("-1", () -> t.x.put(-1), BAD);
        for (int k : FAR) {
            call(k + "", () -> t.x.put(k), BAD);
        }
        says("Promise 38", "Throws IllegalStateException if the row has 50 values");
        call("the 51st", () -> t.x.put(2), STATE);
        is("not of another row", t.x.put(1), 2);
        is("not if there is room again", t.x.out(2) + " " + t.x.put(2), "49 50");
        is("not if it was undone", t.x.undo() + " " + t.x.put(2), "19 50");
    }

    private void out() {
        Talk t = new Talk();
        for (String value : new String[] {"1/2", "3", "1/2", "-1"}) {
            t.run(value);
            t.x.put(2);
        }
        says("Promise 39", "The value of the answer goes out of a row, once.");
        is("the least", t.x.out(2) + " " + rowOf(t, 2), "3 1/2 1/2 3");
        is("one of two", t.run("2/4") + " " + t.x.out(2) + " " + rowOf(t, 2), "0 2 1/2 3");
        says("Promise 39", "- row: 0 to 2");
        t.run("5");
        t.x.put(0);
        is("0", t.run("5") + " " + t.x.out(0) + " " + t.x.count(0, true), "0 0 0");
        says("Promise 39", "Returns the number of values that are left.");
        is("the greatest", t.run("3") + " " + t.x.out(2), "0 1");
        is("the last", t.run("0.5") + " " + t.x.out(2), "0 0");
        says("Promise 39", "Throws IllegalArgumentException if row is out of range");
        call("3", () -> t.x.out(3), BAD);
        call("-1", () -> t.x.out(-1), BAD);
        for (int k : FAR) {
            call(k + "", () -> t.x.out(k), BAD);
        }
        says("Promise 39", "Throws NoSuchElementException if it is not in it");
        call("no values", () -> t.x.out(2), NO_SUCH);
        t.x.put(1);
        call("in another row", () -> t.x.out(2), NO_SUCH);
        t.run("0.500001");
        call("a greater one", () -> t.x.out(1), NO_SUCH);
        t.run("-1/2");
        call("a lesser one", () -> t.x.out(1), NO_SUCH);
        is("the row stays", rowOf(t, 1), "1/2");
    }

    private void empty() {
        Talk t = new Talk();
        for (int i = 0; i < 50; i++) {
            t.x.put(0);
        }
        t.x.put(2);
        says("Promise 40", "Empties a row.");
        is("one", t.x.empty(2) + " " + t.x.count(2, true), "1 0");
        says("Promise 40", "- row: 0 to 2");
        is("no other one", t.x.count(0, true), 50);
        says("Promise 40", "Returns the number of values that it had.");
        is("50", t.x.empty(0), 50);
        is("none", t.x.empty(0) + t.x.empty(1), 0);
        is("room again", t.x.put(0), 1);
        says("Promise 40", "Throws IllegalArgumentException if row is out of range");
        call("3", () -> t.x.empty(3), BAD);
        call("-1", () -> t.x.empty(-1), BAD);
        for (int k : FAR) {
            call(k + "", () -> t.x.empty(k), BAD);
        }
    }

    private void count() {
        Talk t = new Talk();
        for (String value : new String[] {"1/2", "3", "1/2", "-1"}) {
            t.run(value);
            t.x.put(2);
        }
        says("Promise 41", "Counts the values of a row that are less than the answer, or the same.");
        t.run("0.5");
        is("both", t.x.count(2, false) + " " + t.x.count(2, true), "1 2");
        says("Promise 41", "- row: 0 to 2 - isSame: true for those that are the same, false for those that are less");
        is("another row", t.x.count(0, false) + " " + t.x.count(0, true), "0 0");
        t.run("-1");
        is("the least", t.x.count(2, false) + " " + t.x.count(2, true), "0 1");
        t.run("3");
        is("the greatest", t.x.count(2, false) + " " + t.x.count(2, true), "3 1");
        says("Promise 41", "Returns how many there are.");
        t.run("4");
        is("above all", t.x.count(2, false) + " " + t.x.count(2, true), "4 0");
        t.run("-2");
        is("below all", t.x.count(2, false) + " " + t.x.count(2, true), "0 0");
        t.run("1/" + GREATEST);
        is("a great fraction between", t.x.count(2, false) + " " + t.x.count(2, true), "1 0");
        says("Promise 41", "Throws IllegalArgumentException if row is out of range");
        call("3", () -> t.x.count(3, true), BAD);
        call("-1", () -> t.x.count(-1, false), BAD);
        for (int k : FAR) {
            call(k + "", () -> t.x.count(k, true), BAD);
        }
    }

    private void takeLeast() {
        Talk t = new Talk();
        for (String value : new String[] {"1/2", "0", "-1"}) {
            t.run(value);
            t.x.put(2);
        }
        says("Promise 42", "Makes the answer a value of a row.");
        is("the second", t.x.takeLeast(2, 1) + t.fraction(), "00");
        says("Promise 42", "- row: 0 to 2 - place: 0 for the least one");
        is("the least", t.x.takeLeast(2, 0) + t.fraction(), "-1-1");
        says("Promise 42", "Returns its sign.");
        is("the greatest", t.x.takeLeast(2, 2) + t.fraction(), "11/2");
        is("the row stays", rowOf(t, 2), "-1 0 1/2");
        says("Promise 42", "Throws IllegalArgumentException if row is out of range");
        call("3", () -> t.x.takeLeast(3, 0), BAD);
        call("-1", () -> t.x.takeLeast(-1, 0), BAD);
        says("Promise 42", "Throws IndexOutOfBoundsException if there is no such place");
        call("behind", () -> t.x.takeLeast(2, 3), OUT);
        call("ahead", () -> t.x.takeLeast(2, -1), OUT);
        call("no values", () -> t.x.takeLeast(0, 0), OUT);
        for (int k : FAR) {
            call("row " + k, () -> t.x.takeLeast(k, 0), BAD);
            call("row and place " + k, () -> t.x.takeLeast(k, k), BAD);
            call("place " + k, () -> t.x.takeLeast(2, k), OUT);
        }
        is("the answer stays", t.fraction(), "1/2");
    }

    private void takeNext() {
        Talk t = new Talk();
        for (String value : new String[] {"1/2", "3", "1/2", "-1", "3", "3"}) {
            t.run(value);
            t.x.put(1);
        }
        says("Promise 43", "Makes the answer the least value of a row that is greater than the answer.");
        is("from below all", t.run("-5") + " " + t.x.takeNext(1) + t.fraction(), "0 1-1");
        is("from one of them", t.x.takeNext(1) + t.fraction(), "21/2");
        is("from two of them", t.x.takeNext(1) + t.fraction(), "33");
        says("Promise 43", "- row: 0 to 2");
        t.run("7");
        t.x.put(0);
        t.run("8");
        t.x.put(2);
        is("0", t.run("0") + " " + t.x.takeNext(0) + t.fraction(), "0 17");
        is("2", t.x.takeNext(2) + t.fraction(), "18");
        says("Promise 43", "Returns how many times it is in the row.");
        is("two", t.run("1/2-10^-29") + " " + t.x.takeNext(1) + t.fraction(), "0 21/2");
        says("Promise 43", "Throws IllegalArgumentException if row is out of range");
        call("3", () -> t.x.takeNext(3), BAD);
        call("-1", () -> t.x.takeNext(-1), BAD);
        for (int k : FAR) {
            call(k + "", () -> t.x.takeNext(k), BAD);
        }
        says("Promise 43", "Throws NoSuchElementException if there is none");
        t.run("3");
        call("the greatest", () -> t.x.takeNext(1), NO_SUCH);
        t.run("3+1/(10^29)");
        call("above the greatest", () -> t.x.takeNext(1), NO_SUCH);
        t.x.empty(1);
        t.run("-5");
        call("no values", () -> t.x.takeNext(1), NO_SUCH);
        is("the answer stays", t.fraction(), "-5");
    }

    private void fill(Talk t, int row, String... values) {
        t.x.empty(row);
        for (String value : values) {
            t.run(value);
            t.x.put(row);
        }
    }

    private void takeAll() {
        Talk t = new Talk();
        says("Promise 44", "Makes the answer the sum, the product or the mean of a row.");
        fill(t, 2, "1/2", "-1/3", "1/4");
        is("the sum", t.x.takeAll(2, 0) + t.fraction(), "15/12");
        is("the product", t.x.takeAll(2, 1) + t.fraction(), "-1-1/24");
        is("the mean", t.x.takeAll(2, 2) + t.fraction(), "15/36");
        says("Promise 44", "- row: 0 to 2 - what: 0 the sum (0 without values), 1 the product (1 without values), 2 the"
            + " mean");
        is("no values", t.x.takeAll(0, 0) + t.fraction() + t.x.takeAll(0, 1) + t.fraction(), "0011");
        fill(t, 1, "-7");
        is("one value", t.x.takeAll(1, 0) + t.fraction() + t.x.takeAll(1, 1) + t.fraction() + t.x.takeAll(1, 2)
            + t.fraction(), "-1-7-1-7-1-7");
        says("Promise 44", "Returns its sign.");
        fill(t, 1, "-7", "7", "0");
        is("0", t.x.takeAll(1, 0) + " " + t.x.takeAll(1, 1) + " " + t.x.takeAll(1, 2), "0 0 0");
        says("Promise 44", "Throws IllegalArgumentException if row or what is out of range");
        for (int k : new int[] {3, -1, Integer.MIN_VALUE, Integer.MAX_VALUE}) {
            call("row " + k, () -> t.x.takeAll(k, 0), BAD);
            call("what " + k, () -> t.x.takeAll(1, k), BAD);
            call("both " + k, () -> t.x.takeAll(k, k), BAD);
            call("what " + k + " without values", () -> t.x.takeAll(0, k), BAD);
        }
        call("row 3 and the mean", () -> t.x.takeAll(3, 2), BAD);
        says("Promise 44", "Throws NoSuchElementException if the mean of no values is asked");
        call("at first", () -> t.x.takeAll(0, 2), NO_SUCH);
        t.x.empty(1);
        call("of a row that was emptied", () -> t.x.takeAll(1, 2), NO_SUCH);
        is("the answer stays", t.fraction(), "0");
    }

    private void takeAllOfGreatOnes() {
        Talk t = new Talk();
        says("Promise 44", "Throws ArithmeticException if it is no value (section 1); what is added up or multiplied on the"
            + " way may be none");
        fill(t, 0, GREATEST + "-1", "1");
        is("a sum that is just a value", t.x.takeAll(0, 0) + t.fraction(), "1" + NINES);
        fill(t, 0, GREATEST, "1");
        call("a sum that is just none", () -> t.x.takeAll(0, 0), REFUSED);
        is("its mean", t.x.takeAll(0, 2) + t.fraction(), "15" + "0".repeat(29));
        is("its product", t.x.takeAll(0, 1) + t.fraction(), "1" + NINES);
        fill(t, 0, "-" + GREATEST, "-1");
        call("a sum below 0 that is just none", () -> t.x.takeAll(0, 0), REFUSED);
        fill(t, 0, "1/" + GREATEST, "0");
        call("a mean that is none", () -> t.x.takeAll(0, 2), REFUSED);
        is("its sum", t.x.takeAll(0, 0) + t.fraction(), "11/" + NINES);
        fill(t, 0, "10^15", "10^15");
        call("a product that is just none", () -> t.x.takeAll(0, 1), REFUSED);
        is("the answer stays", t.fraction(), "1000000000000000");
        fill(t, 0, "10^15", "10^15", "1/10");
        is("a product that is just a value", t.x.takeAll(0, 1) + t.fraction(), "11" + "0".repeat(29));
        fill(t, 1, "-10^29*9", "10^29*9", "10^29*9", "10^29*9", "-10^29*9", "-10^29*9");
        is("a sum that is none on the way", t.x.takeAll(1, 0) + t.fraction(), "00");
        fill(t, 1, "1/(10^29+1)", "1/(10^29+3)", "-1/(10^29+1)", "-1/(10^29+3)", "1/3");
        is("a denominator that is none on the way", t.x.takeAll(1, 0) + t.fraction(), "11/3");
        Talk u = new Talk();
        for (int i = 0; i < 25; i++) {
            fill(u, 2);
        }
        for (int i = 0; i < 25; i++) {
            u.run(GREATEST + "-" + i * 2);
            u.x.put(2);
            u.run("1/(" + GREATEST + "-" + i * 2 + ")");
            u.x.put(2);
        }
        is("50 values up to 10^750 and back", u.x.takeAll(2, 1) + u.fraction(), "11");
        call("their sum", () -> u.x.takeAll(2, 0), REFUSED);
        call("their mean", () -> u.x.takeAll(2, 2), REFUSED);
    }

    private void undo() {
        Talk t = new Talk();
        says("Promise 45", "Undoes the latest change that can be undone.");
        t.run("x=1");
        t.run("x=2");
        is("one", t.x.undo() + " " + namesOf(t), "1 24=1");
        says("Promise 45", "Returns the number of changes that can still be undone; NONE, and nothing is different, if there"
            + " was none.");
        is("the last", t.x.undo() + " " + t.x.names(), "0 0");
        is("none", t.x.undo() + " " + t.x.names() + t.x.undo(), "-1 0-1");
        is("what can be done again", t.x.redo() + " " + t.x.redo() + " " + namesOf(t), "1 0 24=2");
        is("none at first", new Talk().x.undo(), -1);
        for (int i = 0; i < 30; i++) {
            t.x.put(0);
        }
        is("20 of 32", t.x.undo(), 19);
        for (int i = 18; i >= 0; i--) {
            is(i + " more", t.x.undo(), i);
        }
        is("not 21", t.x.undo() + " " + t.x.empty(0), "-1 10");
    }

    private void redo() {
        Talk t = new Talk();
        says("Promise 46", "Does the change again that was undone last.");
        t.run("x=1");
        t.run("x=2");
        t.x.undo();
        t.x.undo();
        is("the first", t.x.redo() + " " + namesOf(t), "1 24=1");
        says("Promise 46", "Returns the number of changes that can still be done again; NONE, and nothing is different, if"
            + " there was none.");
        is("the second", t.x.redo() + " " + namesOf(t), "0 24=2");
        is("none", t.x.redo() + " " + namesOf(t) + " " + t.x.redo(), "-1 24=2 -1");
        is("what can be undone", t.x.undo() + " " + t.x.undo() + " " + t.x.undo(), "1 0 -1");
        is("none at first", new Talk().x.redo() + " " + new Talk().x.redo(), "-1 -1");
        t.run("y=1");
        is("none behind a change", t.x.redo() + " " + namesOf(t), "-1 25=1");
    }

    private void meanDigits() {
        Talk t = new Talk();
        says("Promise 47", "Returns the mean number of digits of the denominators of all names.");
        t.run("x=1/100");
        t.run("f(a)=a/12345");
        is("one", t.x.meanDigits(), 3.0);
        t.run("y=1/x");
        is("two", t.x.meanDigits(), 2.0);
        t.run("x=100");
        is("worked anew", t.x.meanDigits(), 2.0);
        t.run("x=1/" + GREATEST);
        is("the greatest", t.x.meanDigits(), 15.5);
        says("Promise 47", "Returns the sum of their numbers of digits, converted to double, divided by the number of names,"
            + " converted to double; 0.0 without names.");
        t.run("z=0");
        is("three", t.x.meanDigits(), 32.0 / 3.0);
        is("none", new Talk().x.meanDigits(), 0.0);
        Talk u = new Talk();
        for (char c = 'a'; c <= 't'; c++) {
            u.run(c + "=1/" + GREATEST);
        }
        is("20", u.x.meanDigits(), 30.0);
        for (char c = 'a'; c <= 't'; c++) {
            u.x.drop(c - 'a' + 1, false);
        }
        is("none any more", u.x.meanDigits(), 0.0);
    }

    private void wholes() {
        Talk t = new Talk();
        says("Promise 48", "Returns the share of the slots that are whole.");
        is("all", t.x.wholes(), 1.0f);
        says("Promise 48", "Returns how many slots have a whole value, converted to float, divided by 10.0f.");
        t.run("1/2");
        for (int i = 0; i < 10; i++) {
            t.x.keep(i);
            is("without " + (i + 1), t.x.wholes(), (9 - i) / 10.0f);
        }
        t.run("-" + GREATEST);
        t.x.keep(9);
        is("one again", t.x.wholes(), 0.1f);
    }

    private void errors() {
        says("Promise 49", "Holds the values against the laws: names whose value is not that of their sum worked anew; pairs"
            + " of slots a, b, the one with a lesser number than the other, for which (a + b) - b is not a, or (a * b) /"
            + " b, if b is not 0, is not a; and slots whose written form, read again, is another value.");
        Talk t = new Talk();
        is("at first", t.x.errors(), 0);
        for (char c = 'a'; c <= 't'; c++) {
            t.run(c + "=1/" + (c - 'a' + 1));
        }
        t.run("f(x)=x" + "+1".repeat(97));
        t.run("t=f(f(a))+1-1+1-1");
        t.run("a=2");
        is("20 names, one with 200 steps", t.x.errors() + " " + t.x.names(), "0 20");
        t.x.undo();
        t.x.undo();
        is("undone", t.x.errors(), 0);

        says("Promise 49", "What is worked on the way may be greater than values are.");
        String[] values = {GREATEST, "-" + GREATEST, "1/" + GREATEST, "0", "-1/(" + GREATEST + "-1)",
            GREATEST + "/(" + GREATEST + "-1)", "(" + GREATEST + "-2)/(10^29+1)", "-2^99", "10^-29", "1-1/" + GREATEST};
        for (int i = 0; i < values.length; i++) {
            is("slot " + i, t.run(values[i]) + " " + t.x.keep(i), "0 0");
        }
        is("great slots", t.x.errors(), 0);
        says("Promise 49", "Returns how many there are of all three sorts; always 0.");
        t.tell("1+");
        t.x.write(true);
        String written = t.written();
        is("it leaves all as it is", t.x.errors() + " " + t.written().equals(written) + " " + t.x.clearTape() + " "
            + t.fraction() + " " + t.x.undo(), "0 true 2 " + "9".repeat(29) + "8/" + NINES + " 17");
    }
}
