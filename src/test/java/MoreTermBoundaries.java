/** The sentences of the Terms 4 to 9: names and functions, the answer, decimals, rows, undo, exceptions. */
final class MoreTermBoundaries extends Quoting {
    private MoreTermBoundaries(Report report, Sentences sentences) {
        super(report, sentences);
    }

    static void runAll(Report report, Sentences sentences) {
        MoreTermBoundaries tests = new MoreTermBoundaries(report, sentences);
        tests.using();
        tests.telling();
        tests.workedAnew();
        tests.stepsOfTheirOwn();
        tests.refusedChangesNothing();
        tests.rings();
        tests.longestRing();
        tests.answer();
        tests.decimals();
        tests.continued();
        tests.best();
        tests.units();
        tests.rows();
        tests.changes();
        tests.twentyChanges();
        tests.doneAgain();
        tests.exceptions();
        tests.thrownChangesNothing();
        tests.ranges();
        tests.wordNumbers();
        tests.face();
        tests.end();
    }

    private void using() {
        says("Term 4", "A name uses the names and functions that stand in its sum (parameters are none), a function"
            + " likewise; what these use, and so on, it uses, too.");
        Talk t = new Talk();
        t.run("x=1");
        t.run("y=2");
        t.run("f(x)=x+y");
        t.run("g(a)=f(a)*0");
        t.run("z=g(1)+x");
        is("a name a name", t.x.uses(word("z"), false, word("x"), false), true);
        is("a name a function", t.x.uses(word("z"), false, word("g"), true), true);
        is("a function a name", t.x.uses(word("f"), true, word("y"), false), true);
        is("a parameter", t.x.uses(word("f"), true, word("x"), false), false);
        is("a function a function", t.x.uses(word("g"), true, word("f"), true), true);
        is("by two", t.x.uses(word("z"), false, word("y"), false), true);
        is("no longer", t.run("g(a)=a") + " " + t.x.uses(word("z"), false, word("y"), false), "2 false");
        is("though its value does not need it", t.run("w=0*x") + " " + t.x.uses(word("w"), false, word("x"), false),
            "1 true");
        Talk u = new Talk();
        u.run("b=1");
        u.run("a=b");
        u.run("c=a");
        u.run("a(x)=c+x");
        u.run("j(x)=a(x)");
        u.run("k=j(1)");
        is("by the first of all names", u.x.uses(word("c"), false, word("b"), false), true);
        is("by names and functions", u.x.uses(word("k"), false, word("b"), false), true);
        is("all of them", u.x.users(word("b"), false) + " " + u.x.users(word("a"), true), "3 1");
    }

    private void telling() {
        Talk t = new Talk();
        says("Term 4", "When a name or function is told, it takes the place of one with its word.");
        t.run("x=1");
        is("a name", t.run("x=2") + " " + t.x.names() + t.value("x"), "1 12");
        t.run("f(a)=a");
        is("a function", t.run("f(a)=a*5") + " " + t.x.functions() + t.value("f(1)"), "2 15");
        is("a function with other parameters", t.run("f(a,b)=a*b") + " " + t.x.functions() + t.value("f(2,2)"), "2 14");
        is("not one of the other kind", t.run("f=3") + " " + t.x.names() + t.x.functions(), "1 21");

        says("Term 4", "Telling a name works its sum; telling a function works nothing ahead of its calls (so a refused"
            + " division in it is met there).");
        is("a name", t.run("y=1/0") + " " + t.x.names(), "refused by 5 at 3 2");
        is("a function", t.run("d(a)=a/0") + " " + t.run("2+d(1)"), "2 refused by 5 at 2");
        is("a function without its parameter", t.run("e(a)=29!") + " " + t.run("e(1)"), "2 refused by 7 at 0");
        is("no steps of a function", t.run("1+1") + " " + t.run("f(a,b)=a+b-1") + " " + t.steps(), "0 2 1");
    }

    private void workedAnew() {
        says("Term 4", "Then all names that use what was told are worked anew: again and again, of those that are left,"
            + " the first one in the order of a dictionary that uses none of the others that are left;");
        Talk t = new Talk();
        t.run("x=1");
        t.run("b=x+1");
        t.run("ab=b+1");
        t.run("a=ab+1");
        t.run("f(q)=q*x");
        t.run("c=f(a)");
        t.run("d=7");
        is("all that use it", t.run("x=10") + " " + namesOf(t), "1 1=13 29=12 2=11 3=130 4=7 24=10");
        is("by a function", t.run("f(q)=q-x") + " " + namesOf(t), "2 1=13 29=12 2=11 3=3 4=7 24=10");
        Talk all = new Talk();
        all.run("f(x)=1");
        StringBuilder due = new StringBuilder("2");
        for (int i = 1; i <= 20; i++) {
            all.run((char) ('a' + i - 1) + "=f(" + i + ")");
            due.append(' ').append(i).append('=').append(i);
        }
        is("20 names", all.run("f(x)=x") + " " + namesOf(all), due.toString());
        Talk u = new Talk();
        u.run("x=1");
        u.run("b=1/x");
        u.run("aa=1/x");
        u.run("ab=1/x");
        is("the first in a dictionary", u.run("x=0") + " " + u.x.failed(), "refused by 9 at 0 " + word("aa"));
        u.run("aa=1/b");
        is("not one that uses another one that is left", u.run("x=0") + " " + u.x.failed(),
            "refused by 9 at 0 " + word("ab"));
        u.run("ab=aa");
        is("two that do", u.run("x=0") + " " + u.x.failed(), "refused by 9 at 0 " + word("b"));
    }

    private void stepsOfTheirOwn() {
        says("Term 4", "each with 200 steps of its own; if one is refused (by 5 to 8, at whatever place), the line is"
            + " refused by 9, and this name is told by failed().");
        Talk t = new Talk();
        t.run("f(a)=a" + "+1".repeat(48));
        t.run("x=1");
        t.run("y=f(f(f(f(x))))");
        t.run("z=f(f(f(f(y))))");
        is("two with 196 steps", t.run("x=2") + " " + namesOf(t), "1 24=2 25=194 26=386");
        is("two with 200 steps", t.run("f(a)=a" + "+1".repeat(49)) + " " + namesOf(t), "2 24=2 25=198 26=394");
        is("by 8", t.run("f(a)=a" + "+1".repeat(50)) + " " + t.x.failed(), "refused by 9 at 0 " + word("y"));
        Talk u = new Talk();
        u.run("x=2");
        u.run("a=1/(x-1)");
        u.run("b=x!");
        u.run("c=10^25*x");
        is("by 5", u.run("x=1") + " " + u.x.failed(), "refused by 9 at 0 1");
        is("by 6", u.run("x=1/2") + " " + u.x.failed(), "refused by 9 at 0 2");
        is("by 7", u.run("x=10000") + " " + u.x.failed(), "refused by 9 at 0 2");
        is("by 7 of another one", u.run("b=1") + " " + u.run("x=100000") + " " + u.x.failed(), "1 refused by 9 at 0 3");
        is("by none", u.run("x=10000") + " " + u.x.takeName(3) + u.fraction(), "1 11" + "0".repeat(29));
        is("at a place that is not 0", u.run("q=1+1+1+1/x") + " " + u.run("   x=0") + " " + u.x.failed(),
            "1 refused by 9 at 0 " + word("q"));
    }

    /** Something of everything; behind it no call but those of a test and allOf(). */
    private static Talk full() {
        Talk t = new Talk();
        t.run("x=2");
        t.run("y=1/x");
        t.run("f(a)=a*x");
        t.run("1/3");
        t.x.put(0);
        t.x.keep(4);
        t.x.write(true);
        t.run("2+2*2");
        t.x.put(0);
        t.x.put(2);
        t.x.undo();
        return t;
    }

    /** allOf() without the cause, its place, the failed name and the ring. */
    private static String allButRefusals(Talk t) {
        return allOf(t).replaceFirst("refused .* written", "written");
    }

    private void refusedChangesNothing() {
        says("Term 4", "What is refused changes nothing but the cause, its place, the ring, and what failed() tells.");
        String[] lines = {"q", "gcd=1", "x=y", "1/0", "(1/2)!", "29!", "x=0", "x=f(1)", "f(a,b)=q", "abs(1,2)"};
        String due = allButRefusals(full());
        for (String line : lines) {
            Talk t = full();
            is(line + " is refused", t.run(line).toString().startsWith("refused by "), true);
            is(line, allButRefusals(t), due);
        }
        Talk t = full();
        is("what can be done again stays", t.run("x=0") + " " + t.x.redo(), "refused by 9 at 0 0");
        is("the cause and the place", t.run("q") + " " + t.x.refused(0) + t.x.refused(1), "refused by 1 at 0 10");
        is("the ring", t.run("x=y") + " " + t.x.ring() + " " + t.run("q") + " " + t.x.ring(),
            "refused by 4 at 0 2 refused by 1 at 0 0");
        is("failed()", t.run("x=0") + " " + t.x.failed() + " " + t.run("q") + " " + t.x.failed(),
            "refused by 9 at 0 25 refused by 1 at 0 -1");
        is("the ring and failed()", t.run("x=y") + " " + t.run("x=0") + " " + t.x.ring() + " " + t.run("x=y") + " "
            + t.x.failed(), "refused by 4 at 0 refused by 9 at 0 0 refused by 4 at 0 -1");
    }

    private static String ringOf(Talk t) {
        StringBuilder all = new StringBuilder();
        for (int i = 0; i < t.x.ring(); i++) {
            all.append(i > 0 ? " " : "").append(t.x.ringAt(i));
        }
        return all.toString();
    }

    private void rings() {
        says("Term 4", "The ring of a line that was refused by 4 is: the word that was told; then, again and again, of"
            + " what the one ahead uses directly the first one by which the word that was told can be come to, names"
            + " ahead of functions, each in the order of a dictionary, until this is come to.");
        Talk t = new Talk();
        t.run("m=1");
        t.run("a=5");
        t.run("z=m");
        t.run("ab=z");
        t.run("b=m");
        t.run("f(x)=x+m");
        t.run("e(x)=z*x");
        is("the first in a dictionary, not the nearest", t.run("m=b+ab") + " " + ringOf(t), "refused by 4 at 0 13 29 26");
        is("one by which it cannot be come to", t.run("m=a+b") + " " + ringOf(t), "refused by 4 at 0 13 2");
        is("names ahead of functions", t.run("m=e(1)+z") + " " + ringOf(t), "refused by 4 at 0 13 26");
        is("functions in a dictionary", t.run("m=f(1)+e(1)") + " " + ringOf(t), "refused by 4 at 0 13 -5 26");
        is("the word itself behind others", t.run("m=m+b") + " " + ringOf(t), "refused by 4 at 0 13 2");
        is("the word itself ahead of others", t.run("m=z+m") + " " + ringOf(t), "refused by 4 at 0 13");
        is("a function", t.run("z=f(2)") + " " + t.run("f(x)=e(x)") + " " + ringOf(t), "1 refused by 4 at 0 -6 -5 26");
        t.run("f=f(1)");
        is("a name and a function of one word", t.run("f(x)=f+x") + " " + ringOf(t), "refused by 4 at 0 -6 6");
        Talk u = new Talk();
        u.run("y=1");
        u.run("z=y");
        u.run("a=z");
        is("by the first of all names", u.run("y=a") + " " + ringOf(u), "refused by 4 at 0 25 1 26");
        is("by names that were worked anew", u.run("y=2") + " " + u.run("y=a") + " " + ringOf(u),
            "1 refused by 4 at 0 25 1 26");
        is("the first of all names", u.run("a=a") + " " + ringOf(u), "refused by 4 at 0 1");
    }

    private void longestRing() {
        says("Term 4", "It is told without the word at its end.");
        Talk t = new Talk();
        t.run("a=1");
        is("one that uses itself", t.run("a=a") + " " + ringOf(t), "refused by 4 at 0 1");
        for (char c = 'b'; c <= 't'; c++) {
            t.run(c + "=" + (char) (c - 1));
        }
        t.run("a(x)=x*t");
        for (char c = 'b'; c <= 'j'; c++) {
            t.run(c + "(x)=" + (char) (c - 1) + "(x)");
        }
        StringBuilder due = new StringBuilder("1");
        for (int i = 10; i >= 1; i--) {
            due.append(" -").append(i);
        }
        for (int i = 20; i >= 2; i--) {
            due.append(' ').append(i);
        }
        is("20 names and 10 functions", t.run("a=j(1)") + " " + t.x.ring(), "refused by 4 at 0 30");
        is("all of them", ringOf(t), due.toString());
        call("no word behind them", () -> t.x.ringAt(30), OUT);
        is("nothing else is different", t.value("j(2)") + t.value("t"), "21");
    }

    private void answer() {
        Talk t = new Talk();
        says("Term 5", "The answer is a value, 0 at first.");
        is("0", t.x.sign() + t.fraction(), "00");

        says("Term 5", "A line that is not refused makes it the value of its sum; but a line that tells a function leaves"
            + " it.");
        is("a sum", t.run("1/2") + t.fraction(), "01/2");
        is("a name", t.run("x=1/3") + t.fraction(), "11/3");
        is("a function", t.run("f(a)=a*7") + t.fraction(), "21/3");
        is("a line that is refused", t.run("5+1/0") + t.fraction(), "refused by 5 at 31/3");
        is("a text with an error", t.run("5+") + t.fraction(), "error at 21/3");

        says("Term 5", "Calls that begin with 'take' make it another value.");
        t.run("3/7");
        t.x.keep(1);
        t.x.put(0);
        is("take", t.x.take(0) + t.fraction() + t.x.take(1) + t.fraction(), "0013/7");
        is("takeName", t.x.takeName(word("x")) + t.fraction(), "11/3");
        is("takeStep", t.x.takeStep(0) + t.fraction(), "13/7");
        is("takeContinued", t.x.takeContinued(1) + t.fraction(), "12");
        t.x.take(1);
        is("takeBest", t.x.takeBest(2) + t.fraction(), "11/2");
        t.x.take(1);
        is("takeUnit", t.x.takeUnit(0) + t.fraction(), "11/3");
        is("takeLeast", t.x.takeLeast(0, 0) + t.fraction(), "13/7");
        t.x.take(0);
        is("takeNext", t.x.takeNext(0) + t.fraction(), "13/7");
        is("takeAll", t.x.takeAll(0, 0) + t.fraction(), "13/7");

        says("Term 5", "The steps of the latest line that was not refused and did not tell a function are kept, with what"
            + " each one gave.");
        t.run("1/2-3");
        String due = "4 2";
        is("a sum", t.steps() + " " + t.x.takeStep(0) + t.fraction() + t.x.takeStep(1) + t.fraction(),
            due + " 11/2-1-5/2");
        is("a function", t.run("g(a)=a+a+a") + " " + t.steps(), "2 " + due);
        is("refused ahead of steps", t.run("1+1+q") + " " + t.steps(), "refused by 1 at 4 " + due);
        is("refused at a step", t.run("1+1+1/0") + " " + t.steps(), "refused by 5 at 5 " + due);
        is("refused behind its steps", t.run("y=1/x") + " " + t.run("1/2-3") + " " + t.run("x=1-1") + " " + t.steps(),
            "1 0 refused by 9 at 0 " + due);
        is("a text with an error", t.run("1+1+") + " " + t.steps(), "error at 4 " + due);
        is("no step", t.run("1") + " " + t.x.steps(), "0 0");
    }

    private void decimals() {
        says("Term 6", "The decimals of a value are those of its amount without sign: a whole part, a part ahead, as short"
            + " as can be, and a part that repeats, as short as can be; if the decimals end, nothing repeats.");
        Talk t = new Talk();
        t.run("-7/12");
        is("below 0", t.decimals() + " " + t.x.ahead() + t.x.repeating() + t.x.decimal(1), "-0.58[3] 215");
        t.run("1/3");
        is("nothing ahead", t.decimals() + " " + t.x.ahead() + t.x.repeating(), "0.[3] 01");
        t.run("0.12[12]");
        is("no longer than can be", t.decimals() + " " + t.x.ahead() + t.x.repeating(), "0.[12] 02");
        t.run("0.1[2121]");
        is("what repeats begins as soon as can be", t.decimals() + " " + t.x.ahead() + t.x.repeating(), "0.[12] 02");
        t.run("0.4[9]");
        is("they end", t.decimals() + " " + t.x.ahead() + t.x.repeating() + t.x.ends(), "0.5 10true");
        t.run("-3");
        is("whole", t.decimals() + " " + t.x.ahead() + t.x.repeating() + t.x.ends(), "-3 00true");
        t.run("0");
        is("0", t.decimals() + " " + t.x.ahead() + t.x.repeating() + t.x.ends(), "0 00true");
        t.run("1/8/5^4");
        is("the longer part of two", t.x.ahead() + " " + t.x.repeating(), "4 0");
        t.run("1/256/5");
        is("the other one of two", t.x.ahead() + " " + t.x.repeating(), "8 0");
        t.run("2^-99");
        is("as long as can be", t.x.ahead() + " " + t.x.ends(), "99 true");
    }

    /** The continued form of a sum. */
    private static String formOf(String text) {
        Talk t = new Talk();
        t.run(text);
        int length = t.x.continued();
        StringBuilder all = new StringBuilder();
        t.x.keep(0);
        for (int i = 0; i < length; i++) {
            t.x.take(0);
            t.x.takeContinued(i);
            all.append(i > 0 ? " " : "").append(t.fraction());
        }
        return all.toString();
    }

    private void continued() {
        says("Term 6", "The continued form of a value: a whole number, its floor, and then, unless nothing is left, the"
            + " continued form of 1 divided by what is left.");
        is("whole", formOf("5"), "5");
        is("0", formOf("0"), "0");
        is("whole below 0", formOf("-5"), "-5");
        is("above 1", formOf("43/30"), "1 2 3 4");
        is("below 0", formOf("-43/30"), "-2 1 1 3 4");
        is("below 1", formOf("3/7"), "0 2 3");
        is("1 by a whole one", formOf("1/7"), "0 7");
        is("-1 by a whole one", formOf("-1/7"), "-1 1 6");
        is("the greatest", formOf(GREATEST), NINES);
        is("1 by the greatest", formOf("1/" + GREATEST), "0 " + NINES);
        is("-1 by the greatest", formOf("-1/" + GREATEST), "-1 1 " + "9".repeat(29) + "8");
        is("a long one", formOf("832040/1346269"), "0" + " 1".repeat(28) + " 2");
        Talk t = new Talk();
        t.run(whole("343358302784187294870275058337") + "/" + whole("555565404224292694404015791808"));
        is("the longest", t.x.continued(), 143);
        is("its last number", t.x.takeContinued(142) + t.fraction(), "12");
    }

    private static String bestOf(String text, int bound) {
        Talk t = new Talk();
        t.run(text);
        return t.x.takeBest(bound) + " " + t.fraction();
    }

    private void best() {
        says("Term 6", "The best approximation by a bound is, of all fractions with a denominator from 1 to the bound, the"
            + " one that is nearest; of several the one with the least denominator, then the lesser one.");
        is("bound 1", bestOf("3.1415", 1), "-1 3");
        is("bound 1 above", bestOf("2.7", 1), "1 3");
        is("below the bound", bestOf("3.141592", 112), "-1 333/106");
        is("the bound itself", bestOf("3.141592", 113), "1 355/113");
        is("the denominator as bound", bestOf("3/1000", 1000), "0 3/1000");
        is("one less than the denominator", bestOf("3/1000", 999), "-1 2/667");
        is("least denominator of two", bestOf("5/12", 3), "1 1/2");
        is("least denominator of two, the lesser one", bestOf("7/12", 3), "-1 1/2");
        is("the lesser of two", bestOf("1/2", 1) + ", " + bestOf("3/2", 1), "-1 0, -1 1");
        is("the lesser of two below 0", bestOf("-1/2", 1) + ", " + bestOf("-3/2", 1), "-1 -1, -1 -2");
        is("whole", bestOf("-7", 1) + ", " + bestOf("0", 1000), "0 -7, 0 0");
        is("the greatest", bestOf(GREATEST, 1000), "0 " + NINES);
        is("the smallest", bestOf("1/" + GREATEST, 1000), "-1 0");
        is("the smallest below 0", bestOf("-1/" + GREATEST, 1000), "1 0");
        is("nearly 1", bestOf("1-1/" + GREATEST, 1000), "1 1");
        is("nearly a thousandth", bestOf("1/1000+10^-20", 1000), "-1 1/1000");
    }

    private void units() {
        says("Term 6", "The unit fractions of a value above 0 and below 1: 1 divided by the least whole number not below 1"
            + " divided by the value, then those of what is left, until nothing is left.");
        Talk t = new Talk();
        t.run("4/13");
        t.x.keep(0);
        is("three", t.x.units(), 3);
        is("the first", t.x.takeUnit(0) + t.fraction(), "11/4");
        is("the second", t.x.take(0) + "" + t.x.takeUnit(1) + t.fraction(), "121/18");
        is("the third", t.x.take(0) + "" + t.x.takeUnit(2) + t.fraction(), "131/468");
        t.run("1/7");
        is("a whole number that is not below", t.x.units() + t.fraction(), "11/7");
        t.run("1/" + GREATEST);
        is("the smallest", t.x.units() + " " + t.x.takeUnit(0), "1 30");
        t.run("0");
        is("0", t.x.units(), -1);
        t.run("1");
        is("1", t.x.units(), -1);
        t.run("-1/2");
        is("below 0", t.x.units(), -1);

        says("Term 6", "There must be at most 8, and all of them, and all that is left, must be values; otherwise there are"
            + " none.");
        t.run("253/254");
        is("eight", t.x.units() + " " + t.x.takeUnit(7) + " " + t.fraction(), "8 30 1/591068510075280592134089410191");
        t.run("44/53");
        is("seven, and what is left is no value", t.x.units(), -1);
        call("none of them", () -> t.x.takeUnit(0), OUT);
        t.run("2/(1414*10^12+213562373093)");
        is("the second one is just a value", t.x.units() + " " + t.x.takeUnit(1) + " " + t.fraction(),
            "2 30 1/999999999999997809663646379871");
        t.run("2/(1414*10^12+213562373095)");
        is("the second one is just none", t.x.units(), -1);
        // of the next two the units are values, of the second one what is left behind the first unit is none
        t.run("1/2+1/(10^10-1)+1/(10^20-3*10^10+6)");
        is("what is left is just a value", t.x.units(), 3);
        t.run("1/2+1/(10^10+1)+1/(10^20+10^10+2)");
        is("what is left is just none", t.x.units(), -1);
    }

    private void rows() {
        says("Term 7", "There are three rows, 0 to 2, of at most 50 values each, which may be alike.");
        Talk t = new Talk();
        t.run("1/2");
        for (int row = 0; row < 3; row++) {
            for (int i = 1; i <= 50; i++) {
                is("value " + i + " of row " + row, t.x.put(row), i);
            }
            int full = row;
            call("value 51 of row " + row, () -> t.x.put(full), STATE);
            is("alike in row " + row, t.x.count(row, true), 50);
        }
        call("row 3", () -> t.x.put(3), BAD);
        call("row -1", () -> t.x.put(-1), BAD);
        is("room again", t.x.out(1) + " " + t.x.put(1), "49 50");

        says("Term 7", "They are in ascending order.");
        Talk u = new Talk();
        for (String value : new String[] {"0", "7", "-7", "1/3", "-1/3", "1/2", "7", "-8", "1/" + GREATEST, GREATEST}) {
            u.run(value);
            u.x.put(2);
        }
        is("all", rowOf(u, 2), "-8 -7 -1/3 0 1/" + NINES + " 1/3 1/2 7 7 " + NINES);
    }

    private void changes() {
        says("Term 8", "The names and functions, with their values, and the rows can be undone: a change is a line that"
            + " tells a name or a function and is not refused, a name or function that is dropped, and a value that"
            + " comes into a row or goes out of one, or a row that is emptied (also if nothing is different).");
        Talk t = new Talk();
        t.run("x=1");
        is("a name", t.x.undo() + " " + t.x.names() + t.x.redo() + t.x.names(), "0 001");
        t.run("x=1");
        is("the same name", t.x.undo() + " " + t.x.redo(), "1 0");
        t.run("f(a)=a");
        is("a function", t.x.undo() + " " + t.x.functions() + t.x.redo() + t.x.functions(), "2 001");
        t.run("y=f(x)");
        t.run("x=5");
        is("values", t.x.undo() + " " + namesOf(t) + ", " + t.x.redo() + " " + namesOf(t), "4 24=1 25=1, 0 24=5 25=5");
        t.run("f(a)=a*2");
        is("values by a function", t.x.undo() + " " + namesOf(t) + ", " + t.x.redo() + " " + namesOf(t),
            "5 24=5 25=5, 0 24=5 25=10");
        t.x.drop(word("y"), false);
        is("a name that is dropped", t.x.undo() + " " + t.x.names() + t.x.redo() + t.x.names(), "6 201");
        t.x.drop(word("f"), true);
        is("a function that is dropped", t.x.undo() + " " + t.x.functions() + t.x.redo() + t.x.functions(), "7 100");
        t.x.put(1);
        is("a value that comes", t.x.undo() + " " + rowOf(t, 1) + "," + t.x.redo() + rowOf(t, 1), "8 ,010");
        t.x.takeLeast(1, 0);
        t.x.out(1);
        is("a value that goes", t.x.undo() + " " + rowOf(t, 1) + "," + t.x.redo() + rowOf(t, 1), "9 10,0");
        t.x.undo();
        t.x.empty(1);
        is("a row that is emptied", t.x.undo() + " " + rowOf(t, 1) + "," + t.x.redo() + rowOf(t, 1), "9 10,0");
        t.x.empty(1);
        is("a row without values", t.x.undo() + " " + t.x.redo(), "10 0");
        t.run("x=1/0");
        t.run("q=");
        t.run("2");
        t.x.keep(0);
        t.x.append(0, 0, 0, 0, 1);
        is("no others", t.x.undo(), 10);
        Talk u = new Talk();
        call("a value that cannot go out", () -> u.x.out(0), NO_SUCH);
        call("a name that cannot be dropped", () -> u.x.drop(1, false), NO_SUCH);
        is("are no changes", u.x.undo(), -1);
    }

    private void twentyChanges() {
        says("Term 8", "The latest 20 changes can be undone, the latest first (one that is older than these cannot be"
            + " undone any more, also when later ones were undone);");
        Talk t = new Talk();
        for (int i = 0; i < 20; i++) {
            t.run("x=" + i);
        }
        for (int i = 19; i >= 0; i--) {
            is("all 20, " + i, t.x.undo(), i);
        }
        is("nothing is left", t.x.undo() + " " + t.x.names(), "-1 0");
        Talk u = new Talk();
        for (int i = 1; i <= 25; i++) {
            u.run("x=" + i);
        }
        is("three of 25", u.x.undo() + " " + u.x.undo() + " " + u.x.undo() + " " + namesOf(u), "19 18 17 24=22");
        u.run("x=100");
        for (int i = 17; i >= 0; i--) {
            is("the change behind them, then those ahead, " + i, u.x.undo(), i);
        }
        is("the older ones stay", u.x.undo() + " " + namesOf(u), "-1 24=5");
        Talk w = new Talk();
        for (int i = 1; i <= 21; i++) {
            w.x.put(0);
        }
        for (int i = 19; i >= 0; i--) {
            w.x.undo();
        }
        is("the first of 21", w.x.undo() + " " + rowOf(w, 0), "-1 0");
    }

    private void doneAgain() {
        says("Term 8", "what was undone last can be done again, the latest first, until there is another change.");
        Talk t = new Talk();
        for (int i = 1; i <= 20; i++) {
            t.run("x=" + i);
        }
        for (int i = 0; i < 20; i++) {
            t.x.undo();
        }
        for (int i = 1; i <= 20; i++) {
            is("change " + i, t.x.redo() + " " + namesOf(t), (20 - i) + " 24=" + i);
        }
        is("no more", t.x.redo(), -1);
        t.x.undo();
        t.x.undo();
        t.run("1/0");
        t.run("2");
        t.x.take(0);
        t.x.errors();
        is("no change between", t.x.redo() + " " + namesOf(t), "1 24=19");
        t.x.empty(2);
        is("a change that changes nothing between", t.x.redo() + " " + t.x.undo(), "-1 19");

        says("Term 8", "The answer, its steps and the slots are not undone.");
        Talk u = new Talk();
        u.run("x=1+1");
        u.x.keep(0);
        u.run("x=7");
        u.x.put(0);
        u.x.keep(1);
        u.run("y=3*3*3");
        u.x.undo();
        u.x.undo();
        u.x.undo();
        is("all three", u.fraction() + " " + u.steps() + " " + u.x.take(0) + u.fraction() + u.x.take(1) + u.fraction(),
            "27 3 3 1217");
        u.x.redo();
        is("nor done again", u.fraction() + " " + u.steps(), "7 3 3");
        u.x.write(false);
        u.x.undo();
        is("nor what was written", u.written(), "7");
    }

    private void exceptions() {
        says("Term 9", "If several exceptions apply to a call, the one that is listed first is thrown.");
        Talk t = new Talk();
        is("an error ahead of a refusal", t.run("1/0+q+"), "error at 6");
        t.run("x=1");
        t.run("y=x");
        call("drop none such", () -> t.x.drop(word("x"), true), NO_SUCH);
        call("drop one that is used", () -> t.x.drop(word("x"), false), STATE);
        for (int i = 0; i < 50; i++) {
            t.x.put(0);
        }
        call("put beyond rows", () -> t.x.put(3), BAD);
        call("out beyond rows", () -> t.x.out(3), BAD);
        call("takeLeast beyond both", () -> t.x.takeLeast(3, 50), BAD);
        call("takeLeast beyond places", () -> t.x.takeLeast(0, 50), OUT);
        call("takeNext beyond rows", () -> t.x.takeNext(-1), BAD);
        call("takeAll beyond rows", () -> t.x.takeAll(3, 2), BAD);
        call("takeAll beyond what, without values", () -> t.x.takeAll(1, 3), BAD);
        call("takeAll without values", () -> t.x.takeAll(1, 2), NO_SUCH);
    }

    private void thrownChangesNothing() {
        says("Term 9", "A call that throws an exception changes nothing, except what is told in section 4 of lines that are"
            + " refused, and that run() empties the tape and sets the error position.");
        Talk t = full();
        int[] far = {-1, 1001, Integer.MIN_VALUE, Integer.MAX_VALUE};
        for (int k : far) {
            call("refused " + k, () -> t.x.refused(k), BAD);
            call("ringAt " + k, () -> t.x.ringAt(k), OUT);
            call("digit " + k, () -> t.x.digit(false, k), OUT);
            call("writtenAt " + k, () -> t.x.writtenAt(k), OUT);
            call("keep " + k, () -> t.x.keep(k), BAD);
            call("take " + k, () -> t.x.take(k), BAD);
            call("compare " + k, () -> t.x.compare(0, k), BAD);
            call("nameAt " + k, () -> t.x.nameAt(k), OUT);
            call("takeName " + k, () -> t.x.takeName(k), NO_SUCH);
            call("parameters " + k, () -> t.x.parameters(k), NO_SUCH);
            call("drop " + k, () -> t.x.drop(k, true), NO_SUCH);
            call("stepAt " + k, () -> t.x.stepAt(k), OUT);
            call("takeStep " + k, () -> t.x.takeStep(k), OUT);
            call("decimal " + k, () -> t.x.decimal(k), BAD);
            call("takeContinued " + k, () -> t.x.takeContinued(k), OUT);
            call("takeBest " + k, () -> t.x.takeBest(k), BAD);
            call("takeUnit " + k, () -> t.x.takeUnit(k), OUT);
            call("put " + k, () -> t.x.put(k), BAD);
            call("out " + k, () -> t.x.out(k), BAD);
            call("empty " + k, () -> t.x.empty(k), BAD);
            call("count " + k, () -> t.x.count(k, true), BAD);
            call("takeLeast " + k, () -> t.x.takeLeast(0, k), OUT);
            call("takeNext " + k, () -> t.x.takeNext(k), BAD);
            call("takeAll " + k, () -> t.x.takeAll(0, k), BAD);
        }
        call("drop a name that is used", () -> t.x.drop(word("x"), false), STATE);
        call("out of a row where it is not", () -> t.x.out(1), NO_SUCH);
        call("takeNext of the greatest", () -> t.x.takeNext(0), NO_SUCH);
        call("takeAll without values", () -> t.x.takeAll(1, 2), NO_SUCH);
        is("all that calls can tell", allOf(t), allOf(full()));
        Talk u = full();
        u.tell("7".repeat(198));
        call("append", () -> u.x.append(0, 0x200020, 0, 0x20, 0), STATE);
        is("the tape", u.x.clearTape(), 198);
        is("run of an error", u.run("1+") + " " + u.x.clearTape() + u.x.errorPosition(), "error at 2 02");
        is("run of a refused line", u.run("1/0") + " " + u.x.clearTape() + u.x.errorPosition(),
            "refused by 5 at 1 0-1");
        is("all else", allOf(u).replaceFirst(".* failed", ""), allOf(full()).replaceFirst(".* failed", ""));
        passesOver("Term 9", "A line that is refused causes an ArithmeticException.");
    }

    private void ranges() {
        says("Term 9", "A slot, a row or another number that is out of range causes an IllegalArgumentException.");
        Talk t = new Talk();
        is("slots", t.x.keep(0) + t.x.keep(9) + t.x.take(0) + t.x.take(9) + t.x.compare(0, 9) + t.x.compare(9, 0), 0);
        is("rows", t.x.empty(0) + t.x.empty(2), 0);
        is("others", t.x.decimal(1) + t.x.decimal(1000) + t.x.takeBest(1) + t.x.takeBest(1000), 0);
        is("causes", t.x.refused(0) + t.x.refused(1), -2);
        is("alls", t.x.put(0) + t.x.takeAll(0, 0) + t.x.takeAll(0, 2), 1);
        call("slot 10", () -> t.x.keep(10), BAD);
        call("slot 10 to take", () -> t.x.take(10), BAD);
        call("slot 10 to compare", () -> t.x.compare(10, 0), BAD);
        call("decimal 1001", () -> t.x.decimal(1001), BAD);
        call("decimal 0", () -> t.x.decimal(0), BAD);
        call("bound 1001", () -> t.x.takeBest(1001), BAD);
        call("bound 0", () -> t.x.takeBest(0), BAD);
        call("cause 2", () -> t.x.refused(2), BAD);
        call("all 3", () -> t.x.takeAll(0, 3), BAD);
        for (int k : FAR) {
            call("slot " + k, () -> t.x.take(k), BAD);
            call("row " + k, () -> t.x.count(k, false), BAD);
            call("decimal " + k, () -> t.x.decimal(k), BAD);
            call("bound " + k, () -> t.x.takeBest(k), BAD);
            call("cause " + k, () -> t.x.refused(k), BAD);
            call("all " + k, () -> t.x.takeAll(0, k), BAD);
        }
    }

    private void wordNumbers() {
        says("Term 9", "The number of a word is found by going through its letters, beginning with 0: it becomes 27 times"
            + " itself plus the place of the letter in the alphabet (a 1 up to z 26).");
        String[] words = {"a", "z", "aa", "az", "ba", "zz", "aaaaaa", "zzzzzz", "abcdef"};
        int[] numbers = {1, 26, 28, 53, 55, 728, 14900788, 387420488, 15473895};
        for (int i = 0; i < words.length; i++) {
            Talk t = new Talk();
            t.run(words[i] + "=1");
            is(words[i], t.x.nameAt(0) + " " + t.x.takeName(numbers[i]), numbers[i] + " 1");
            t.run(words[i] + "(x)=1");
            is(words[i] + " for a function", t.x.parameters(numbers[i]), 1);
        }
        Talk t = new Talk();
        t.run("a=1");
        for (int number : new int[] {0, 27, 54, -1, 387420489, Integer.MIN_VALUE, Integer.MAX_VALUE, 27 * 27}) {
            call(number + " is no word that is there", () -> t.x.takeName(number), NO_SUCH);
            is(number + " has no users", t.x.users(number, false), 0);
        }
    }

    private void face() {
        says("Term 9", "The constants: NONE = -1: The absence of a number.");
        is("NONE", ExactlySaid.NONE, -1);
        String[][] parts = {{"append, clearTape, run, errorPosition, refused, failed, ring, ringAt", "The tape, lines"},
            {"sign, digits, digit, write, writtenAt, keep, take, compare", "The answer, slots"},
            {"names, nameAt, takeName, functions, parameters, uses, users, drop", "Names and functions"},
            {"steps, stepAt, takeStep", "Steps"},
            {"ends, ahead, repeating, decimal, continued, takeContinued, takeBest, units, takeUnit",
                "Decimals, approximations, sums"},
            {"put, out, empty, count, takeLeast, takeNext, takeAll", "Rows"},
            {"undo, redo", "Undo"}, {"meanDigits, wholes, errors", "Figures and second ways"}};
        for (String[] part : parts) {
            passesOver("Term 9", "Ahead of the calls " + part[0] + " the interface says: ---- " + part[1] + ".");
        }
    }
}
