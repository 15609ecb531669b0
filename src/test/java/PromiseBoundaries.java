/** The sentences of the promises 1 to 28: the tape, lines, the answer, slots, names, functions, steps. */
final class PromiseBoundaries extends Quoting {
    private PromiseBoundaries(Report report, Sentences sentences) {
        super(report, sentences);
    }

    static void runAll(Report report, Sentences sentences) {
        PromiseBoundaries tests = new PromiseBoundaries(report, sentences);
        tests.newObject();
        tests.append();
        tests.clearTape();
        tests.run();
        tests.errorPosition();
        tests.refused();
        tests.failed();
        tests.ring();
        tests.ringAt();
        tests.sign();
        tests.digits();
        tests.digit();
        tests.write();
        tests.writtenAt();
        tests.keep();
        tests.take();
        tests.compare();
        tests.names();
        tests.nameAt();
        tests.takeName();
        tests.functions();
        tests.parameters();
        tests.uses();
        tests.users();
        tests.drop();
        tests.steps();
        tests.stepAt();
        tests.takeStep();
        tests.end();
    }

    private void newObject() {
        says("Promise 1", "Creates a calculator without names, functions and values in rows, with an empty tape; the answer"
            + " and all slots are 0, nothing is written.");
        Talk t = new Talk();
        call("nothing is written", () -> t.x.writtenAt(0), OUT);
        is("the tape", t.x.clearTape(), 0);
        is("the answer", t.x.sign() + " " + t.x.digits(false) + t.x.digit(false, 0) + t.x.digit(true, 0), "0 101");
        is("no names", t.x.names() + t.x.functions() + t.x.steps(), 0);
        for (int i = 0; i < 10; i++) {
            is("slot " + i, t.x.take(i) + t.fraction(), "00");
        }
        for (int i = 0; i < 3; i++) {
            is("row " + i, t.x.count(i, true) + t.x.count(i, false) + t.x.empty(i), 0);
        }
        Talk u = new Talk();
        is("no past", u.x.undo() + " " + u.x.redo(), "-1 -1");
        u.run("x=1");
        u.run("f(a)=1");
        u.x.put(0);
        u.x.keep(0);
        Talk w = new Talk();
        is("not those of another one", w.x.names() + w.x.functions() + w.x.count(0, false) + w.x.sign(), 0);
    }

    private void append() {
        says("Promise 2", "Appends bytes to the tape: the four bytes of each parameter, the most significant byte first, in"
            + " the order of the parameters.");
        Talk t = new Talk();
        t.x.append(0x31323334, 0x35363738, 0x39303132, 0x2b393837, 0x36353433);
        is("20 bytes", t.value(""), "123466665555");
        says("Promise 2", "Bytes that are 0 are left out.");
        is("all of them", t.x.append(0, 0, 0, 0, 0), 0);
        is("single ones", t.x.append(0x00310032, 0, 0x2b000000, 0x00000033, 0), 4);
        is("their text", t.value(""), "15");
        is("bytes of a number below 0", t.x.append(-1, 0, Integer.MIN_VALUE, 0, 0), 5);
        is("are no tokens", t.run(""), "error at 0");

        says("Promise 2", "Returns the number of bytes on the tape afterwards.");
        is("one", t.x.append(0, 0, 0, 0, 0x31), 1);
        is("20 more", t.x.append(0x31313131, 0x31313131, 0x31313131, 0x31313131, 0x31313131), 21);
        is("none more", t.x.append(0, 0, 0, 0, 0), 21);

        says("Promise 2", "Throws IllegalStateException if the tape would have more than 200 bytes");
        Talk u = new Talk();
        int four = 0x20202020;
        for (int i = 1; i <= 9; i++) {
            u.x.append(four, four, four, four, four);
        }
        is("199", u.x.append(four, four, four, four, 0x202020), 199);
        call("201", () -> u.x.append(0x20, 0, 0, 0, 0x20), STATE);
        call("201 by one number", () -> u.x.append(0, 0, 0x20000020, 0, 0), STATE);
        call("219", () -> u.x.append(four, four, four, four, four), STATE);
        is("199 still", u.x.append(0, 0, 0, 0, 0), 199);
        is("200", u.x.append(0, 0, 0x3100, 0, 0), 200);
        call("201 by one", () -> u.x.append(1, 0, 0, 0, 0), STATE);
        is("200 and none", u.x.append(0, 0, 0, 0, 0), 200);
        is("all 200 are read", u.value(""), "1");
        is("an empty tape again", u.x.append(0x31, 0, 0, 0, 0), 1);
    }

    private void clearTape() {
        Talk t = new Talk();
        says("Promise 3", "Empties the tape.");
        t.tell("1+1");
        t.x.clearTape();
        is("what was on it", t.value("7"), "7");
        says("Promise 3", "Returns the number of bytes that were on it.");
        is("none", t.x.clearTape(), 0);
        t.tell("1+1");
        is("three", t.x.clearTape(), 3);
        is("none again", t.x.clearTape(), 0);
        t.tell(" ".repeat(200));
        is("200", t.x.clearTape(), 200);
    }

    private void run() {
        Talk t = new Talk();
        says("Promise 4", "Reads the line on the tape, and works it.");
        is("it is worked", t.value("1/2+1/3"), "5/6");
        is("the tape is empty then", t.x.clearTape(), 0);
        says("Promise 4", "Returns 0 for a sum alone, 1 if a name was told, 2 if a function was told.");
        is("a sum", t.run("1"), 0);
        is("a name", t.run("x=1"), 1);
        is("a function", t.run("f(a)=1"), 2);
        is("again", t.run("x=1") + " " + t.run("f(a)=1"), "1 2");
        says("Promise 4", "Throws IllegalArgumentException if the text has an error");
        call("an empty tape", t.x::run, BAD);
        t.tell("1/0+");
        call("ahead of what would be refused", t.x::run, BAD);
        is("the tape is empty then", t.x.clearTape(), 0);
        says("Promise 4", "Throws ArithmeticException if it is refused");
        for (String line : new String[] {"q", "gcd=1", "x=x", "1/0", "0.5!", "29!"}) {
            t.tell(line);
            call(line, t.x::run, REFUSED);
        }
        is("the tape is empty then", t.x.clearTape(), 0);
    }

    private void errorPosition() {
        Talk t = new Talk();
        says("Promise 5", "Returns the error position of the latest run().");
        is("the first byte", t.run(")") + " " + t.x.errorPosition(), "error at 0 0");
        is("the latest", t.run("1)") + " " + t.x.errorPosition(), "error at 1 1");
        t.tell("12345");
        t.x.clearTape();
        is("it stays", t.x.errorPosition(), 1);
        is("200", t.run(" ".repeat(200)) + " " + t.x.errorPosition(), "error at 200 200");
        says("Promise 5", "Returns the position; NONE if the text had no error, or there was no run().");
        is("no run()", new Talk().x.errorPosition(), -1);
        is("no error", t.run("1") + " " + t.x.errorPosition(), "0 -1");
        is("a refused line", t.run("1)") + " " + t.run("1/0") + " " + t.x.errorPosition(),
            "error at 1 refused by 5 at 1 -1");
    }

    private void refused() {
        Talk t = new Talk();
        says("Promise 6", "Tells why the latest line that was refused was.");
        t.run("1/0");
        is("one", t.x.refused(0) + " " + t.x.refused(1), "5 1");
        t.run("  q");
        is("a later one", t.x.refused(0) + " " + t.x.refused(1), "1 2");
        t.run("1");
        t.run("1+");
        t.x.clearTape();
        is("not lines that were not refused", t.x.refused(0) + " " + t.x.refused(1), "1 2");
        says("Promise 6", "- what: 0 the cause, 1 its place");
        is("the last place", t.run(" ".repeat(197) + "1/0") + " " + t.x.refused(0) + " " + t.x.refused(1),
            "refused by 5 at 198 5 198");
        says("Promise 6", "Returns what is asked; NONE if none was refused yet.");
        Talk u = new Talk();
        is("none", u.x.refused(0) + " " + u.x.refused(1), "-1 -1");
        u.run("1");
        u.run("1+");
        is("none yet", u.x.refused(0) + " " + u.x.refused(1), "-1 -1");
        says("Promise 6", "Throws IllegalArgumentException if what is out of range");
        call("2", () -> t.x.refused(2), BAD);
        call("-1", () -> t.x.refused(-1), BAD);
        call("ahead of any", () -> u.x.refused(2), BAD);
        for (int k : FAR) {
            call(k + "", () -> t.x.refused(k), BAD);
        }
    }

    private void failed() {
        Talk t = new Talk();
        t.run("x=1");
        t.run("zzzzzz=1/x");
        says("Promise 7", "Tells which name could not be worked anew, of the latest line that was refused.");
        is("one", t.run("x=0") + " " + t.x.failed(), "refused by 9 at 0 387420488");
        is("it stays", t.run("1") + " " + t.run("1+") + " " + t.x.failed(), "0 error at 2 387420488");
        says("Promise 7", "Returns the number of its word; NONE if it was not refused by 9, or none was refused yet.");
        is("none yet", new Talk().x.failed(), -1);
        is("refused by 5", t.run("1/0") + " " + t.x.failed(), "refused by 5 at 1 -1");
        is("refused by 9 again", t.run("x=0") + " " + t.x.failed(), "refused by 9 at 0 387420488");
        is("refused by 4", t.run("x=x") + " " + t.x.failed(), "refused by 4 at 0 -1");
    }

    private void ring() {
        Talk t = new Talk();
        t.run("x=1");
        t.run("y=x");
        says("Promise 8", "Returns the length of the ring of the latest line that was refused.");
        is("two", t.run("x=y") + " " + t.x.ring(), "refused by 4 at 0 2");
        is("one", t.run("x=x") + " " + t.x.ring(), "refused by 4 at 0 1");
        is("it stays", t.run("1") + " " + t.run("1+") + " " + t.x.ring(), "0 error at 2 1");
        says("Promise 8", "Returns the number of its words; 0 if it was not refused by 4, or none was refused yet.");
        is("none yet", new Talk().x.ring(), 0);
        is("refused by 5", t.run("1/0") + " " + t.x.ring(), "refused by 5 at 1 0");
    }

    private void ringAt() {
        Talk t = new Talk();
        t.run("x=1");
        t.run("f(a)=x");
        says("Promise 9", "Returns a word of this ring.");
        is("both", t.run("x=f(1)") + " " + t.x.ringAt(0) + " " + t.x.ringAt(1), "refused by 4 at 0 24 -6");
        says("Promise 9", "- place: 0 for the first one");
        is("a function", t.run("f(a)=f(a)") + " " + t.x.ringAt(0), "refused by 4 at 0 -6");
        says("Promise 9", "Returns the number of the word, below 0 (with a minus) if it is that of a function.");
        t.run("zzzzzz(a)=a");
        is("the last word", t.run("zzzzzz(a)=zzzzzz(a)") + " " + t.x.ringAt(0), "refused by 4 at 0 -387420488");
        says("Promise 9", "Throws IndexOutOfBoundsException if there is no such place");
        call("behind", () -> t.x.ringAt(1), OUT);
        call("ahead", () -> t.x.ringAt(-1), OUT);
        for (int k : FAR) {
            call(k + "", () -> t.x.ringAt(k), OUT);
        }
        call("no line was refused", () -> new Talk().x.ringAt(0), OUT);
        t.run("1/0");
        call("refused by 5", () -> t.x.ringAt(0), OUT);
    }

    private void sign() {
        Talk t = new Talk();
        says("Promise 10", "Returns the sign of the answer. Returns -1, 0 or 1.");
        is("0 at first", t.x.sign(), 0);
        is("below", t.run("-1/" + GREATEST) + " " + t.x.sign(), "0 -1");
        is("above", t.run(GREATEST) + " " + t.x.sign(), "0 1");
        is("-0", t.run("-0") + " " + t.x.sign(), "0 0");
        is("0 times below", t.run("0*-3") + " " + t.x.sign(), "0 0");
        String[] below = {"0-5", "-1/2+1/3", "-2*3", "2/-3", "7%-3", "(-2)^3", "(-2)^-3", "-3!", "floor(-1/2)", "ceil(-3/2)",
            "near(-2/3)", "med(-1,0)", "num(-3/2)", "min(-1,1)", "max(-1,-2)"};
        String[] zero = {"0.000", "1/3-1/3", "0/7", "6%-3", "0^5", "gcd(0,0)", "lcm(0,-3)", "floor(1/2)", "ceil(-1/2)",
            "near(-1/2)", "abs(0)", "med(-1,1)", "num(0)", "min(0,1)", "max(-1,0)"};
        String[] above = {"0.[1]", "1/2-1/3", "-2*-3", "-2/-3", "-7%3", "(-2)^2", "(-2)^-2", "0^0", "0!", "3!", "gcd(-4,6)",
            "lcm(-4,6)", "floor(3/2)", "ceil(1/2)", "near(2/3)", "abs(-1/2)", "med(-1,2)", "num(3/2)", "den(-3/2)",
            "den(0)", "min(2,1)", "max(-1,1)"};
        String[][] all = {below, zero, above};
        for (int i = 0; i < all.length; i++) {
            for (String sum : all[i]) {
                is(sum, t.run(sum) + " " + t.x.sign(), "0 " + (i - 1));
            }
        }
        t.run("3/7");
        t.x.keep(0);
        is("of a best approximation", t.x.takeBest(2) + " " + t.x.sign(), "1 1");
        t.x.take(0);
        is("of a unit fraction", t.x.takeUnit(1) + " " + t.x.sign(), "2 1");
        t.x.take(0);
        is("of a number of a continued form", t.x.takeContinued(1) + " " + t.x.sign(), "1 1");
        is("of the empty sum and product", t.x.takeAll(0, 0) + "" + t.x.sign() + t.x.takeAll(0, 1) + t.x.sign(), "0011");
    }

    private void digits() {
        Talk t = new Talk();
        says("Promise 11", "Counts digits of the answer.");
        is("both", t.run("12/345") + " " + t.x.digits(false) + t.x.digits(true), "0 13");
        says("Promise 11", "- isDenominator: true for the denominator, false for the numerator without sign");
        is("without sign", t.run("-12/35") + " " + t.x.digits(false) + t.x.digits(true), "0 22");
        says("Promise 11", "Returns how many digits it has, in decimals.");
        is("0", t.run("0") + " " + t.x.digits(false) + t.x.digits(true), "0 11");
        is("9 and 10", t.run("9/10") + " " + t.x.digits(false) + t.x.digits(true), "0 12");
        is("the greatest", t.run(GREATEST) + " " + t.x.digits(false), "0 30");
        is("the greatest below", t.run("1/" + GREATEST) + " " + t.x.digits(true), "0 30");
        for (int i = 1; i < 30; i++) {
            is("10^" + i, t.run("10^-" + i) + " " + t.x.digits(true), "0 " + (i + 1));
            is("10^" + i + "-1", t.run("10^" + i + "-1") + " " + t.x.digits(false), "0 " + i);
        }
    }

    private void digit() {
        Talk t = new Talk();
        says("Promise 12", "Returns a digit of the answer.");
        t.run("-9070/" + whole("100000000000000000002000000003"));
        is("the numerator", "" + t.x.digit(false, 0) + t.x.digit(false, 1) + t.x.digit(false, 2) + t.x.digit(false, 3),
            "9070");
        says("Promise 12", "- isDenominator: as for digits()");
        is("the denominator", "" + t.x.digit(true, 0) + t.x.digit(true, 20) + t.x.digit(true, 29), "123");
        says("Promise 12", "- place: 0 for the highest one");
        is("the others", "" + t.x.digit(true, 1) + t.x.digit(true, 19) + t.x.digit(true, 21) + t.x.digit(true, 28),
            "0000");
        says("Promise 12", "Returns 0 to 9.");
        t.run("1234567890");
        StringBuilder all = new StringBuilder();
        for (int i = 0; i < 10; i++) {
            all.append(t.x.digit(false, i));
        }
        is("all", all.toString(), "1234567890");
        says("Promise 12", "Throws IndexOutOfBoundsException if there is no such place");
        call("behind", () -> t.x.digit(false, 10), OUT);
        call("behind the denominator", () -> t.x.digit(true, 1), OUT);
        call("ahead", () -> t.x.digit(false, -1), OUT);
        call("ahead of the denominator", () -> t.x.digit(true, -1), OUT);
        for (int k : FAR) {
            call(k + "", () -> t.x.digit(false, k), OUT);
            call(k + " of the denominator", () -> t.x.digit(true, k), OUT);
        }
        t.run("0");
        call("behind 0", () -> t.x.digit(false, 1), OUT);
        is("0", t.x.digit(false, 0), 0);
    }

    private void write() {
        Talk t = new Talk();
        says("Promise 13", "Writes the answer, in place of what was written before: as a fraction its numerator with its"
            + " sign, and behind it, if it is not whole, a / and its denominator; in decimals a - if it is below 0, the"
            + " whole part, and, if it is not whole, a point, the part ahead, and the part that repeats in [ ].");
        is("0", t.fraction() + " " + t.decimals(), "0 0");
        t.run("-7");
        is("whole", t.fraction() + " " + t.decimals(), "-7 -7");
        t.run("-7/4");
        is("not whole", t.fraction() + " " + t.decimals(), "-7/4 -1.75");
        t.run("-1/3");
        is("nothing ahead", t.fraction() + " " + t.decimals(), "-1/3 -0.[3]");
        t.run("1/6");
        is("both", t.fraction() + " " + t.decimals(), "1/6 0.1[6]");
        t.run("1/700");
        is("zeros ahead", t.decimals(), "0.00[142857]");
        t.run(GREATEST + "/(10^29)");
        is("a long part ahead", t.decimals(), "9." + "9".repeat(29));
        t.run("-" + GREATEST + "/(" + GREATEST + "-1)");
        is("the longest fraction", t.x.write(false), 62);

        says("Promise 13", "- inDecimals: whether in decimals");
        t.run("1/2");
        is("both", t.x.write(true) + t.written() + " " + t.x.write(false) + t.written(), "30.5 31/2");

        says("Promise 13", "Returns the number of signs; NONE, and what was written before stays, if it is asked in"
            + " decimals, and the part ahead and the part that repeats have more than 100 digits together.");
        t.run("1/97/16");
        is("4 ahead and 96", t.x.write(true), 104);
        t.run("1/97/32");
        is("5 ahead and 96", t.x.write(true), -1);
        is("what was written", t.written().length() + " " + t.written().substring(0, 8), "104 0.0006[4");
        t.run("1/60101");
        is("100 that repeat", t.x.write(true), 104);
        t.run("1/60101/10");
        is("1 ahead and 100", t.x.write(true), -1);
        is("what was written", t.written().length(), 104);
        t.run("1/101^14");
        is("very many", t.x.write(true), -1);
        is("as a fraction", t.x.write(false), 31);
        t.run("-2^-99");
        is("99 ahead", t.x.write(true), 102);
        t.run("1/1019");
        is("1018", t.x.write(true) + " " + t.written().length(), "-1 102");
        t.run("1/983");
        is("982", t.x.write(true), -1);
    }

    private void writtenAt() {
        Talk t = new Talk();
        says("Promise 14", "Returns a sign of what was written last.");
        t.run("-12/5");
        t.x.write(false);
        is("all", "" + t.x.writtenAt(0) + t.x.writtenAt(1) + t.x.writtenAt(2) + t.x.writtenAt(3) + t.x.writtenAt(4),
            "-12/5");
        t.run("7");
        is("the answer is not written", t.written(), "-12/5");
        says("Promise 14", "- index: index of a sign, from 0");
        is("the first and the last", "" + t.x.writtenAt(0) + t.x.writtenAt(4), "-5");
        passesOver("Promise 14", "Returns the sign.");
        says("Promise 14", "Throws IndexOutOfBoundsException if there is no such sign, or nothing was written");
        call("behind", () -> t.x.writtenAt(5), OUT);
        call("ahead", () -> t.x.writtenAt(-1), OUT);
        for (int k : FAR) {
            call(k + "", () -> t.x.writtenAt(k), OUT);
        }
        call("nothing was written", () -> new Talk().x.writtenAt(0), OUT);
        t.x.write(false);
        call("behind a shorter one", () -> t.x.writtenAt(1), OUT);
        Talk u = new Talk();
        u.run("1/1019");
        u.x.write(true);
        call("nothing could be written", () -> u.x.writtenAt(0), OUT);
    }

    private void keep() {
        Talk t = new Talk();
        says("Promise 15", "Keeps the answer in a slot; all have 0 at first.");
        t.run("-1/2");
        is("0", t.x.keep(0), 0);
        is("it is kept", t.run("5") + " " + t.x.take(0) + t.fraction(), "0 -1-1/2");
        says("Promise 15", "- slot: 0 to 9");
        is("9", t.x.keep(9) + " " + t.x.take(8) + t.x.take(9), "0 0-1");
        says("Promise 15", "Returns the sign of the value that was there.");
        is("below", t.run("3") + " " + t.x.keep(9), "0 -1");
        is("above", t.run("0") + " " + t.x.keep(9), "0 1");
        is("0", t.run("1") + " " + t.x.keep(9), "0 0");
        says("Promise 15", "Throws IllegalArgumentException if slot is out of range");
        call("10", () -> t.x.keep(10), BAD);
        call("-1", () -> t.x.keep(-1), BAD);
        for (int k : FAR) {
            call(k + "", () -> t.x.keep(k), BAD);
        }
    }

    private void take() {
        Talk t = new Talk();
        says("Promise 16", "Makes the answer the value of a slot.");
        t.run("1/2");
        t.x.keep(9);
        is("0", t.x.take(0) + t.fraction(), "00");
        is("it stays in the slot", t.x.take(9) + t.fraction() + t.x.take(9) + t.fraction(), "11/211/2");
        says("Promise 16", "- slot: 0 to 9");
        t.run("-3");
        t.x.keep(0);
        is("both ends", t.x.take(9) + t.fraction() + t.x.take(0) + t.fraction(), "11/2-1-3");
        says("Promise 16", "Returns its sign.");
        is("all signs", t.x.take(9) + " " + t.x.take(5) + " " + t.x.take(0), "1 0 -1");
        says("Promise 16", "Throws IllegalArgumentException if slot is out of range");
        call("10", () -> t.x.take(10), BAD);
        call("-1", () -> t.x.take(-1), BAD);
        for (int k : FAR) {
            call(k + "", () -> t.x.take(k), BAD);
        }
        is("the answer stays", t.fraction(), "-3");
    }

    private void compare() {
        Talk t = new Talk();
        String[] values = {"-" + GREATEST, "-1/2", "-1/" + GREATEST, "0", "1/" + GREATEST, "1/3", "1/2", GREATEST};
        for (int i = 0; i < values.length; i++) {
            t.run(values[i]);
            t.x.keep(i);
        }
        t.run("1/2");
        t.x.keep(9);
        says("Promise 17", "Compares the values of two slots.");
        is("alike", t.x.compare(9, 6) + t.x.compare(6, 9), 0);
        is("itself", t.x.compare(7, 7), 0);
        says("Promise 17", "- slot: 0 to 9 - other: 0 to 9");
        is("both ends", t.x.compare(0, 9) + " " + t.x.compare(9, 0), "-1 1");
        is("0 and a slot that was not used", t.x.compare(3, 8), 0);
        says("Promise 17", "Returns -1, 0 or 1, as the first one is less, the same or greater.");
        for (int i = 0; i < values.length; i++) {
            for (int k = 0; k < values.length; k++) {
                is(values[i] + " and " + values[k], t.x.compare(i, k), Integer.compare(i, k));
            }
        }
        says("Promise 17", "Throws IllegalArgumentException if slot or other is out of range");
        call("10", () -> t.x.compare(10, 0), BAD);
        call("other 10", () -> t.x.compare(0, 10), BAD);
        call("-1", () -> t.x.compare(-1, 0), BAD);
        call("other -1", () -> t.x.compare(0, -1), BAD);
        call("both", () -> t.x.compare(-1, 10), BAD);
        for (int k : FAR) {
            call(k + "", () -> t.x.compare(k, 0), BAD);
            call("other " + k, () -> t.x.compare(0, k), BAD);
        }
    }

    private void names() {
        Talk t = new Talk();
        says("Promise 18", "Counts the names.");
        is("none", t.x.names(), 0);
        is("no functions", t.run("f(a)=a") + " " + t.x.names(), "2 0");
        is("one", t.run("x=1") + " " + t.x.names(), "1 1");
        is("one told again", t.run("x=2") + " " + t.x.names(), "1 1");
        is("one that was refused", t.run("y=1/0") + " " + t.x.names(), "refused by 5 at 3 1");
        is("one dropped", t.x.drop(word("x"), false) + " " + t.x.names(), "1 0");
        says("Promise 18", "Returns 0 to 20.");
        for (char c = 'a'; c <= 't'; c++) {
            t.run(c + "=1");
        }
        is("20", t.x.names(), 20);
        is("not 21", t.run("u=1") + " " + t.x.names(), "refused by 3 at 0 20");
    }

    private void nameAt() {
        Talk t = new Talk();
        for (String name : "b ab a ba zzzzzz aaaaaa aaaaab aa".split(" ")) {
            t.run(name + "=1");
        }
        says("Promise 19", "Returns a name by its place in the order of a dictionary.");
        String[] due = "a aa aaaaaa aaaaab ab b ba zzzzzz".split(" ");
        for (int i = 0; i < due.length; i++) {
            is("place " + i, t.x.nameAt(i), word(due[i]));
        }
        says("Promise 19", "- place: 0 for the first one");
        is("the first", t.x.nameAt(0), 1);
        says("Promise 19", "Returns the number of its word.");
        is("the last", t.x.nameAt(7), 387420488);
        says("Promise 19", "Throws IndexOutOfBoundsException if there is no such place");
        call("behind", () -> t.x.nameAt(8), OUT);
        call("ahead", () -> t.x.nameAt(-1), OUT);
        for (int k : FAR) {
            call(k + "", () -> t.x.nameAt(k), OUT);
        }
        call("no names", () -> new Talk().x.nameAt(0), OUT);
    }

    private void takeName() {
        Talk t = new Talk();
        t.run("x=-1/2");
        t.run("y=0");
        t.run("zzzzzz=7");
        t.run("f(x)=x");
        says("Promise 20", "Makes the answer the value of a name.");
        is("x", t.x.takeName(24) + t.fraction(), "-1-1/2");
        says("Promise 20", "- word: number of a word");
        is("the greatest", t.x.takeName(387420488) + t.fraction(), "17");
        says("Promise 20", "Returns its sign.");
        is("0", t.x.takeName(25), 0);
        says("Promise 20", "Throws NoSuchElementException if it is no name");
        call("a function", () -> t.x.takeName(6), NO_SUCH);
        call("a known function", () -> t.x.takeName(word("abs")), NO_SUCH);
        call("another word", () -> t.x.takeName(26), NO_SUCH);
        call("no word", () -> t.x.takeName(27 * 24), NO_SUCH);
        call("0", () -> t.x.takeName(0), NO_SUCH);
        call("-24", () -> t.x.takeName(-24), NO_SUCH);
        for (int k : FAR) {
            call(k + "", () -> t.x.takeName(k), NO_SUCH);
        }
        is("the answer stays", t.fraction(), "0");
        t.x.undo();
        t.x.undo();
        call("one that was undone", () -> t.x.takeName(387420488), NO_SUCH);
    }

    private void functions() {
        Talk t = new Talk();
        says("Promise 21", "Counts the functions that were told.");
        is("none", t.x.functions(), 0);
        is("no names", t.run("f=1") + " " + t.x.functions(), "1 0");
        is("one", t.run("f(a)=1") + " " + t.x.functions(), "2 1");
        is("one told again", t.run("f(a,b)=1") + " " + t.x.functions(), "2 1");
        is("one that was refused", t.run("g(a)=q") + " " + t.x.functions(), "refused by 1 at 5 1");
        is("one dropped", t.x.drop(6, true) + " " + t.x.functions(), "1 0");
        says("Promise 21", "Returns 0 to 10.");
        for (char c = 'a'; c <= 'j'; c++) {
            t.run(c + "(x)=1");
        }
        is("10", t.x.functions(), 10);
        is("not 11", t.run("k(x)=1") + " " + t.x.functions(), "refused by 3 at 0 10");
    }

    private void parameters() {
        Talk t = new Talk();
        t.run("a(x)=1");
        t.run("zzzzzz(x,y,z,w)=1");
        t.run("n=1");
        says("Promise 22", "Returns the number of parameters of a function that was told.");
        is("one", t.x.parameters(1), 1);
        says("Promise 22", "- word: number of a word");
        is("the greatest", t.x.parameters(387420488), 4);
        says("Promise 22", "Returns 1 to 4.");
        is("told again", t.run("a(x,y)=1") + " " + t.x.parameters(1), "2 2");
        is("three", t.run("a(x,y,z)=1") + " " + t.x.parameters(1), "2 3");
        is("undone", t.x.undo() + " " + t.x.parameters(1), "4 2");
        says("Promise 22", "Throws NoSuchElementException if it is none");
        call("a name", () -> t.x.parameters(word("n")), NO_SUCH);
        for (String known : KNOWN.split(" ")) {
            call("one that was not told, " + known, () -> t.x.parameters(word(known)), NO_SUCH);
        }
        call("another word", () -> t.x.parameters(2), NO_SUCH);
        call("no word", () -> t.x.parameters(27), NO_SUCH);
        call("0", () -> t.x.parameters(0), NO_SUCH);
        call("-1", () -> t.x.parameters(-1), NO_SUCH);
        for (int k : FAR) {
            call(k + "", () -> t.x.parameters(k), NO_SUCH);
        }
    }

    private void uses() {
        Talk t = new Talk();
        t.run("x=1");
        t.run("f(a)=a+x");
        t.run("y=f(1)");
        t.run("f=y");
        int x = word("x");
        int y = word("y");
        int f = word("f");
        says("Promise 23", "Tells whether a name or function uses another one (section 4).");
        is("a name a function", t.x.uses(y, false, f, true), true);
        is("a function a name", t.x.uses(f, true, x, false), true);
        is("a name a name by others", t.x.uses(f, false, x, false), true);
        is("the other way", t.x.uses(x, false, y, false), false);
        is("itself", t.x.uses(x, false, x, false), false);
        says("Promise 23", "- word: number of a word - isFunction: whether the first one is a function - other: number of a"
            + " word - isOtherFunction: whether the other one is a function");
        is("a function and a name of one word", t.x.uses(f, false, f, true), true);
        is("the other way", t.x.uses(f, true, f, false), false);
        is("the name of the word", t.x.uses(y, false, f, false), false);
        says("Promise 23", "Returns whether it does; false also if there are none such.");
        is("no such name", t.x.uses(word("q"), false, x, false), false);
        is("no such function", t.x.uses(y, true, x, false), false);
        is("no such other name", t.x.uses(y, false, word("q"), false), false);
        is("no such other function", t.x.uses(y, false, x, true), false);
        is("no such words", t.x.uses(0, false, 0, true) || t.x.uses(-1, true, 27, false), false);
        for (int k : FAR) {
            is(k + "", t.x.uses(k, false, x, false) || t.x.uses(y, false, k, true) || t.x.uses(k, true, k, true), false);
        }
    }

    private void users() {
        Talk t = new Talk();
        t.run("x=1");
        t.run("f(a)=a+x");
        t.run("g(a)=f(a)");
        t.run("y=g(1)");
        t.run("z=y+x");
        t.run("f=1");
        says("Promise 24", "Counts the names that use a name or function.");
        is("names", t.x.users(word("y"), false), 1);
        is("by functions", t.x.users(word("x"), false), 2);
        is("of a function", t.x.users(word("f"), true), 2);
        says("Promise 24", "- word: number of a word - isFunction: whether it is a function");
        is("the name of the word", t.x.users(word("f"), false), 0);
        says("Promise 24", "Returns how many there are; 0 also if there is none such.");
        is("none", t.x.users(word("z"), false), 0);
        is("no such name", t.x.users(word("g"), false), 0);
        is("no such function", t.x.users(word("x"), true), 0);
        for (int k : FAR) {
            is(k + "", t.x.users(k, false) + t.x.users(k, true), 0);
        }
        Talk u = new Talk();
        u.run("a=1");
        for (char c = 'b'; c <= 't'; c++) {
            u.run(c + "=" + (char) (c - 1));
        }
        is("19", u.x.users(1, false) + " " + u.x.users(20, false), "19 0");
    }

    private void drop() {
        Talk t = new Talk();
        t.run("x=1");
        t.run("f(a)=a");
        t.run("g(a)=f(a)+x");
        t.run("y=g(1)");
        t.run("g=1");
        says("Promise 25", "Drops a name or function.");
        is("one", t.x.drop(word("g"), false) + " " + t.run("g"), "4 refused by 1 at 0");
        says("Promise 25", "- word: number of a word - isFunction: whether it is a function");
        call("no name any more", () -> t.x.drop(word("g"), false), NO_SUCH);
        call("a function still", () -> t.x.drop(word("g"), true), STATE);
        says("Promise 25", "Throws NoSuchElementException if there is none such");
        call("a function", () -> t.x.drop(word("f"), false), NO_SUCH);
        call("a name", () -> t.x.drop(word("x"), true), NO_SUCH);
        call("a known function", () -> t.x.drop(word("gcd"), true), NO_SUCH);
        call("0", () -> t.x.drop(0, false), NO_SUCH);
        for (int k : FAR) {
            call(k + "", () -> t.x.drop(k, false), NO_SUCH);
            call(k + " for a function", () -> t.x.drop(k, true), NO_SUCH);
        }
        says("Promise 25", "Throws IllegalStateException if a name or function uses it");
        call("by a function", () -> t.x.drop(word("f"), true), STATE);
        call("by a function and a name", () -> t.x.drop(word("x"), false), STATE);
        call("by a name", () -> t.x.drop(word("g"), true), STATE);
        says("Promise 25", "Returns how many names and functions are left, of both.");
        is("three", t.x.drop(word("y"), false), 3);
        is("two", t.x.drop(word("g"), true), 2);
        is("one", t.x.drop(word("x"), false), 1);
        is("none", t.x.drop(word("f"), true), 0);
        is("they come again", t.x.undo() + " " + t.x.functions() + t.x.names(), "9 10");
        is("the same ones", t.x.undo() + " " + t.x.drop(word("f"), true) + t.x.names() + t.value("x"), "8 111");
    }

    private void steps() {
        Talk t = new Talk();
        says("Promise 26", "Counts the steps of the answer.");
        is("none", t.x.steps(), 0);
        is("a NUMBER", t.run("1.5") + " " + t.x.steps(), "0 0");
        is("four", t.run("-(1+2)!*0") + " " + t.x.steps(), "0 4");
        is("a name", t.run("x=1+1") + " " + t.x.steps(), "1 1");
        says("Promise 26", "Returns 0 to 200.");
        t.run("f(x)=x" + "+1".repeat(97));
        is("200", t.run("f(f(1))+1-1+1-1") + " " + t.x.steps(), "0 200");
        is("not 201", t.run("f(f(1))+1-1+1-1+1") + " " + t.x.steps(), "refused by 8 at 15 200");
    }

    private void stepAt() {
        Talk t = new Talk();
        says("Promise 27", "Tells what a step was.");
        t.run("-3!");
        is("both", t.x.stepAt(0) + " " + t.x.stepAt(1), "7 8");
        says("Promise 27", "- step: number of a step, from 0");
        t.run("f(x)=x" + "+1".repeat(97));
        t.run("f(f(1))+1-1+1-1");
        is("the first and the last", t.x.stepAt(0) + " " + t.x.stepAt(97) + " " + t.x.stepAt(199), "1 9 2");
        call("201", () -> t.x.stepAt(200), OUT);
        says("Promise 27", "Returns 1 +, 2 - of two values, 3 *, 4 /, 5 %, 6 ^, 7 !, 8 - of one value, 9 a function that was"
            + " told, 10 gcd, 11 lcm, 12 floor, 13 ceil, 14 near, 15 abs, 16 med, 17 num, 18 den, 19 min, 20 max.");
        t.run("g(x)=x");
        String[] sums = {"1+1", "1-1", "1*1", "1/1", "1%1", "1^1", "1!", "-1", "g(1)", "gcd(1,1)", "lcm(1,1)", "floor(1)",
            "ceil(1)", "near(1)", "abs(1)", "med(1,1)", "num(1)", "den(1)", "min(1,1)", "max(1,1)"};
        for (int i = 0; i < sums.length; i++) {
            is(sums[i], t.run(sums[i]) + " " + t.x.steps() + " " + t.x.stepAt(0), "0 1 " + (i + 1));
        }
        says("Promise 27", "Throws IndexOutOfBoundsException if there is no such step");
        call("behind", () -> t.x.stepAt(1), OUT);
        call("ahead", () -> t.x.stepAt(-1), OUT);
        for (int k : FAR) {
            call(k + "", () -> t.x.stepAt(k), OUT);
        }
        call("no steps", () -> new Talk().x.stepAt(0), OUT);
        t.run("1");
        call("no steps any more", () -> t.x.stepAt(0), OUT);
    }

    private void takeStep() {
        Talk t = new Talk();
        says("Promise 28", "Makes the answer what a step gave; the steps stay.");
        t.run("1/2-3+0.5");
        is("the first", t.x.takeStep(0) + t.fraction() + " " + t.steps(), "11/2 4 2 1");
        is("the second", t.x.takeStep(1) + t.fraction() + " " + t.steps(), "-1-5/2 4 2 1");
        says("Promise 28", "- step: number of a step, from 0");
        is("the last", t.x.takeStep(2) + t.fraction(), "-1-2");
        says("Promise 28", "Returns its sign.");
        is("0", t.run("1-1") + " " + t.x.takeStep(0), "0 0");
        says("Promise 28", "Throws IndexOutOfBoundsException if there is no such step");
        call("behind", () -> t.x.takeStep(1), OUT);
        call("ahead", () -> t.x.takeStep(-1), OUT);
        for (int k : FAR) {
            call(k + "", () -> t.x.takeStep(k), OUT);
        }
        call("no steps", () -> new Talk().x.takeStep(0), OUT);
        t.run("x=7*7");
        t.run("x=8");
        call("no steps any more", () -> t.x.takeStep(0), OUT);
        is("the answer stays", t.fraction(), "8");
    }
}
