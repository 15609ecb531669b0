import java.util.function.Supplier;

/** Each promise of the document: ordinary inputs, the edges that it names, wrong inputs. */
final class PromiseTests {
    private static final String OUT = "throws IndexOutOfBoundsException";
    private static final String BAD = "throws IllegalArgumentException";
    private static final String STATE = "throws IllegalStateException";
    private static final String NO_SUCH = "throws NoSuchElementException";
    private static final String REFUSED = "throws ArithmeticException";
    private static final String NINES = "9".repeat(12);
    /** 10 to the power of 30, less 1. */
    private static final String GREATEST = "(999999999999*10^18+999999999999*10^6+999999)";

    private final Report report;

    private PromiseTests(Report report) {
        this.report = report;
    }

    static void runAll(Report report) {
        PromiseTests tests = new PromiseTests(report);
        tests.newObject();
        tests.tape();
        tests.grammar();
        tests.numbers();
        tests.forms();
        tests.openSigns();
        tests.working();
        tests.unknown();
        tests.taken();
        tests.room();
        tests.ring();
        tests.zeroWholeGreat();
        tests.longLines();
        tests.greatTexts();
        tests.placesInFunctions();
        tests.behind();
        tests.refusedChangesNothing();
        tests.answerParts();
        tests.writing();
        tests.slots();
        tests.names();
        tests.functions();
        tests.usesAndUsers();
        tests.dropping();
        tests.steps();
        tests.decimals();
        tests.continuedForm();
        tests.best();
        tests.units();
        tests.rows();
        tests.takeAll();
        tests.undo();
        tests.figures();
    }

    private void is(String what, Object got, Object due) {
        report.check(what, got, due);
    }

    private void call(String what, Supplier<Object> call, Object due) {
        report.check(what, Talk.answer(call), due);
    }

    private static int word(String word) {
        return Talk.word(word);
    }

    private void newObject() {
        Talk t = new Talk();
        is("1 NONE", ExactlySaid.NONE, -1);
        is("1 tape", t.x.clearTape(), 0);
        is("1 sign", t.x.sign(), 0);
        is("1 denominator", t.x.digit(true, 0), 1);
        is("1 names", t.x.names() + t.x.functions() + t.x.steps(), 0);
        is("1 rows", t.x.empty(0) + t.x.empty(1) + t.x.empty(2), 0);
        call("1 written", () -> t.x.writtenAt(0), OUT);
        is("1 slots", t.x.take(0) + t.x.take(9) + t.x.compare(3, 4), 0);
        is("1 wholes", t.x.wholes(), 1.0f);
        Talk fresh = new Talk();
        is("1 undo", fresh.x.undo(), -1);
        is("1 redo", fresh.x.redo(), -1);
    }

    private void tape() {
        Talk t = new Talk();
        is("2 order", t.x.append(0x31002b32, 0, 0x0000002a, 0, 0x33000000), 5);
        is("2 goes on", t.x.append(0, 0, 0, 0, 0x21), 6);
        is("2 text", t.x.run(), 0);
        is("2 value", t.fraction(), "13");
        int four = 0x20202020;
        for (int i = 1; i <= 10; i++) {
            is("2 twenty", t.x.append(four, four, four, four, four), 20 * i);
        }
        call("2 too many", () -> t.x.append(0, 0, 1, 0, 0), STATE);
        is("2 none more", t.x.append(0, 0, 0, 0, 0), 200);
        is("3 clear", t.x.clearTape(), 200);
        is("3 clear again", t.x.clearTape(), 0);
        t.tell(" ".repeat(190));
        call("2 changes nothing", () -> t.x.append(four, four, four, 0, 0), STATE);
        is("2 still", t.x.append(four, four, 0x20200000, 0, 0), 200);
        is("5 too early", Talk.answer(t.x::run), BAD);
        is("5 length", t.x.errorPosition(), 200);
        is("4 empties", t.x.clearTape(), 0);
        is("2 high bytes", t.x.append(-1, 0, 0, 0, 0), 4);
        is("5 no token", Talk.answer(t.x::run) + " " + t.x.errorPosition(), BAD + " 0");
        is("4 empty tape", t.run(""), "error at 0");
        is("5 without error", t.run("1") + " " + t.x.errorPosition(), "0 -1");
        is("5 fresh", new Talk().x.errorPosition(), -1);
        is("5 refused line", t.run("1/0") + " " + t.x.errorPosition(), "refused by 5 at 1 -1");
        is("4 empties refused", t.x.clearTape(), 0);
    }

    private void grammar() {
        Talk t = new Talk();
        is("4 left to right", t.value("10-3-2"), "5");
        is("4 product", t.value("2+3*4%5/2"), "3");
        is("4 power to the right", t.value("2^3^2"), "512");
        is("4 minus of power", t.value("-2^2"), "-4");
        is("4 power of minus", t.value("2^-2"), "1/4");
        is("4 minus of fact", t.value("-3!"), "-6");
        is("4 facts", t.value("3!!"), "720");
        is("4 power of fact", t.value("2!^3!"), "64");
        is("4 minus minus", t.value("1--1"), "2");
        is("4 times minus", t.value("2*-3"), "-6");
        is("4 spaces", t.value(" \n1 +\n 2 "), "3");
        is("5 tab", t.run("1\t"), "error at 1");
        is("5 end", t.run("1+ "), "error at 3");
        is("5 two numbers", t.run("1 2"), "error at 2");
        is("5 sign first", t.run("*1"), "error at 0");
        is("5 plus of one", t.run("1++1"), "error at 2");
        is("5 open", t.run("(1"), "error at 2");
        is("5 close", t.run("1)"), "error at 1");
        is("5 empty call", t.run("abs()"), "error at 4");
        is("5 comma", t.run("1,2"), "error at 1");
        is("5 comma in ( )", t.run("(1,2)"), "error at 2");
        is("5 capital", t.run("A"), "error at 0");
        is("5 long word", t.run("1+abcdefg"), "error at 2");
        is("5 digit behind word", t.run("ab1"), "error at 2");
        is("5 two =", t.run("a=b=1"), "error at 3");
        is("5 = of number", t.run("1=1"), "error at 1");
        is("5 = of sum", t.run("(a)=1"), "error at 3");
        is("5 first !", t.run("!1"), "error at 0");
        is("5 power of factorials", t.run("2^3!!"), "refused by 6 at 1");
    }

    private void numbers() {
        Talk t = new Talk();
        is("4 repeating", t.value("0.1[6]"), "1/6");
        is("4 repeating at once", t.value("1.[3]"), "4/3");
        is("4 nines", t.value("0.[9]"), "1");
        is("4 six and six", t.value("0.123456[123456]"), "41152/333333");
        is("4 twelve and six", t.value("999999999999.999999"), "999999999999999999/1000000");
        is("4 all digits", t.value("999999999999.000001[000001]"), "999998999999000002/999999");
        is("4 zeros ahead", t.value("000000000007.50"), "15/2");
        is("4 repeating zero", t.value("2.5[0]"), "5/2");
        is("5 thirteen digits", t.run("1234567890123"), "error at 0");
        is("5 thirteen and point", t.run("1+1234567890123.5"), "error at 2");
        is("5 point alone", t.run("1."), "error at 0");
        is("5 point and space", t.run("1. 5"), "error at 0");
        is("5 seven behind", t.run("1.1234567"), "error at 0");
        is("5 seven in [ ]", t.run("1.[1234567]"), "error at 0");
        is("5 none in [ ]", t.run("1.[]"), "error at 0");
        is("5 [ open", t.run("2*1.5[3"), "error at 2");
        is("5 [ without point", t.run("1[3]"), "error at 1");
        is("5 first point", t.run(".5"), "error at 0");
        is("5 second point", t.run("1.5.5"), "error at 3");
        is("5 digit behind ]", t.run("1.5[3]4"), "error at 6");
        is("4 no steps of numbers", t.run("0.1[6]") + " " + t.x.steps(), "0 0");
    }

    private void forms() {
        Talk t = new Talk();
        is("4 sum", t.run("1"), 0);
        is("4 name", t.run("a = 2"), 1);
        is("4 function", t.run("f ( x , y ) = x - y"), 2);
        is("4 function leaves the answer", t.fraction(), "2");
        is("4 call", t.value("f(5,3)"), "2");
        is("5 fifth", t.run("g(a,b,c,d,e)=1"), "error at 10");
        is("4 four", t.run("g(a,b,c,d)=a+b*c-d"), 2);
        is("5 same word", t.run("g(a,b,a)=1"), "error at 6");
        is("5 same word ahead of fifth", t.run("g(a,a,b,c,d)=1"), "error at 4");
        is("5 no = behind", t.run("g(a,a,a,a,a) 1"), "error at 13");
        is("5 no word", t.run("g(1)=1"), "error at 4");
        is("5 sum in ( )", t.run("g(a+b)=1"), "error at 6");
        is("5 none in ( )", t.run("g()=1"), "error at 2");
        is("5 nothing behind =", t.run("g(a)="), "error at 5");
        is("5 same word, nothing behind", t.run("g(a,a)="), "error at 4");
        is("5 long word in ( )", t.run("g(a,a,abcdefg)=1"), "error at 6");
        is("5 = alone", t.run("="), "error at 0");
        is("4 parameter ahead of name", t.run("h(a)=a+1") + t.value("h(9)"), "210");
        is("4 parameter named as function", t.run("abs2=1"), "error at 3");
        is("4 parameter and call", t.run("k(abs)=abs(abs)") + t.value("k(-3)"), "23");
        is("4 own word as parameter", t.run("k(k)=k*2") + t.value("k(4)"), "28");
    }

    private void openSigns() {
        Talk t = new Talk();
        is("5 twelve ( open", t.value("(".repeat(12) + "1" + ")".repeat(12)), "1");
        is("5 thirteen ( open", t.run("(".repeat(13) + "1" + ")".repeat(13)), "error at 12");
        is("5 twelve -", t.value("-".repeat(12) + "1"), "1");
        is("5 thirteen -", t.run("-".repeat(13) + "1"), "error at 12");
        is("5 - of sum is not open", t.value("1" + "-1".repeat(20)), "-19");
        is("5 twelve ^", t.value("1" + "^1".repeat(12)), "1");
        is("5 thirteen ^", t.run("1" + "^1".repeat(13)), "error at 25");
        is("5 together", t.run("abs(-1^(".repeat(3) + "-1"), "error at 24");
        is("5 together in time", t.value("abs(-1^(".repeat(3) + "1" + ")".repeat(6)), "1");
        is("5 thirteenth of a call", t.run("(".repeat(12) + "abs(1)"), "error at 15");
        is("5 one behind another", t.value("(1)+".repeat(30) + "-1"), "29");
        is("5 ahead of = none is open", t.run("f(a)=" + "(".repeat(12) + "a" + ")".repeat(12)), 2);
        is("5 call with values", t.value("f(" + "(".repeat(11) + "7" + ")".repeat(12)), "7");
    }

    private void working() {
        Talk t = new Talk();
        is("4 +", t.value("1/2+1/3"), "5/6");
        is("4 -", t.value("1/2-1/3"), "1/6");
        is("4 *", t.value("2/3*3/4"), "1/2");
        is("4 /", t.value("-1/2/(3/4)"), "-2/3");
        is("4 % above", t.value("7/2%(2/3)"), "1/6");
        is("4 % of below", t.value("-7%3"), "2");
        is("4 % by below", t.value("7%-3"), "-2");
        is("4 % both below", t.value("(-7)%-3"), "-1");
        is("4 % none left", t.value("-6%3"), "0");
        is("4 ^", t.value("(2/3)^3"), "8/27");
        is("4 ^ below", t.value("(-2/3)^-3"), "-27/8");
        is("4 ^ 0", t.value("0^0") + " " + t.value("(-5/7)^0"), "1 1");
        is("4 0 ^", t.value("0^100"), "0");
        is("4 -1 ^", t.value("(-1)^100") + t.value("(-1)^-99"), "1-1");
        is("4 !", t.value("0!") + " " + t.value("1!") + " " + t.value("5!"), "1 1 120");
        is("4 28!", t.value("28!"), "304888344611713860501504000000");
        is("4 gcd", t.value("gcd(-12,18)") + " " + t.value("gcd(0,-5)") + " " + t.value("gcd(0,0)"), "6 5 0");
        is("4 lcm", t.value("lcm(-4,6)") + " " + t.value("lcm(0,5)") + " " + t.value("lcm(0,0)"), "12 0 0");
        is("4 floor", t.value("floor(7/2)") + t.value("floor(-7/2)") + t.value("floor(-4)"), "3-4-4");
        is("4 ceil", t.value("ceil(7/2)") + t.value("ceil(-7/2)") + t.value("ceil(-1/2)"), "4-30");
        is("4 near", t.value("near(5/2)") + t.value("near(7/2)") + t.value("near(-5/2)") + t.value("near(-7/2)"),
            "24-2-4");
        is("4 near more", t.value("near(1/2)") + t.value("near(-2/3)") + t.value("near(9/4)"), "0-12");
        is("4 abs", t.value("abs(-1/3)") + " " + t.value("abs(0)"), "1/3 0");
        is("4 med", t.value("med(1/2,2/4)") + " " + t.value("med(-1/3,1/3)") + " " + t.value("med(1,3/2)"),
            "1/2 0 4/3");
        is("4 num den", t.value("num(-6/4)") + " " + t.value("den(-6/4)") + " " + t.value("den(0)"), "-3 2 1");
        is("4 min max", t.value("min(1/3,2/7)") + " " + t.value("max(-1/3,-2/7)"), "2/7 -2/7");
        is("4 greatest", t.value(GREATEST), "9".repeat(30));
        is("4 greatest below", t.value("1/-" + GREATEST), "-1/" + "9".repeat(30));
    }

    private void unknown() {
        Talk t = new Talk();
        is("6 fresh", t.x.refused(0) + t.x.refused(1), -2);
        call("6 range", () -> t.x.refused(2), BAD);
        call("6 range below", () -> t.x.refused(-1), BAD);
        is("6 name", t.run("1+x"), "refused by 1 at 2");
        is("6 function", t.run("2*f(1)"), "refused by 1 at 2");
        is("6 first in the text", t.run("f(x)+y"), "refused by 1 at 0");
        is("6 own word", t.run("x=x+1"), "refused by 1 at 2");
        is("6 own function", t.run("f(a)=f(a)"), "refused by 1 at 5");
        is("6 function without call", t.run("abs"), "refused by 1 at 0");
        is("6 known with two values", t.run("abs(1,2)"), "refused by 1 at 0");
        is("6 known with one value", t.run("gcd(1)"), "refused by 1 at 0");
        t.run("g(a,b)=a-b");
        is("6 told with one value", t.run("1+g(1)"), "refused by 1 at 2");
        is("6 told with three values", t.run("g(1,2,3)"), "refused by 1 at 0");
        is("6 told with six values", t.run("g(1,2,3,4,5,6)"), "refused by 1 at 0");
        is("6 name called", t.run("x=1") + " " + t.run("x(1)"), "1 refused by 1 at 0");
        is("6 ahead of zero", t.run("1/0+q"), "refused by 1 at 4");
        is("6 ahead of taken", t.run("abs=q"), "refused by 1 at 4");
        is("6 text error leaves it", t.run("1+") + " " + t.x.refused(0), "error at 2 1");
        is("6 good line leaves it", t.run("1") + " " + t.x.refused(1), "0 4");
    }

    private void taken() {
        Talk t = new Talk();
        for (String known : "gcd lcm floor ceil near abs med num den min max".split(" ")) {
            is("6 known name", t.run(" " + known + "=1"), "refused by 2 at 1");
            is("6 known function", t.run(known + "(a)=1"), "refused by 2 at 0");
        }
        t.run("f(a)=a+1");
        is("6 other count, unused", t.run("f(a,b)=a+b"), 2);
        t.run("x=f(1,2)");
        is("6 other count, used", t.run(" f(a)=a"), "refused by 2 at 1");
        is("6 same count, used", t.run("f(b,a)=a*b") + " " + t.x.takeName(word("x")) + t.fraction(), "2 12");
        t.run("g(a)=f(a,a)");
        t.x.drop(word("x"), false);
        is("6 other count, used by function", t.run("f(a)=a"), "refused by 2 at 0");
        is("6 unknown is asked first", t.run("g(a,b)=g(a,b)"), "refused by 1 at 7");
        is("6 itself is no user", t.run("g(a,b)=g(a)"), "refused by 4 at 0");
        is("6 name with the word of a function", t.run("f=3") + t.value("f(f,f)"), "19");
        is("6 value", t.value("f(f,f)"), "9");
    }

    private void room() {
        Talk t = new Talk();
        for (char c = 'a'; c < 'u'; c++) {
            is("18 names", t.run(c + "=" + (c - 'a')), 1);
        }
        is("18 twenty", t.x.names(), 20);
        is("6 room for names", t.run(" u=1"), "refused by 3 at 1");
        is("6 room for the same name", t.run("a=5"), 1);
        is("6 taken ahead of room", t.run("gcd=1"), "refused by 2 at 0");
        for (char c = 'a'; c < 'k'; c++) {
            is("21 functions", t.run(c + "(x)=x+" + c), 2);
        }
        is("21 ten", t.x.functions(), 10);
        is("6 room for functions", t.run("k(x)=x"), "refused by 3 at 0");
        is("6 room for the same function", t.run("j(x,y)=x"), 2);
        is("6 room for a value", t.value("j(b,c)"), "1");
        is("6 drop makes room", t.x.drop(word("t"), false) + " " + t.run("u=1"), "29 1");
    }

    private void ring() {
        Talk t = new Talk();
        is("8 fresh", t.x.ring(), 0);
        call("9 fresh", () -> t.x.ringAt(0), OUT);
        t.run("x=1");
        is("6 itself", t.run("x=x"), "refused by 4 at 0");
        is("8 itself", t.x.ring() + " " + t.x.ringAt(0), "1 24");
        t.run("f(a)=a+x");
        t.run("y=f(1)");
        t.run("ab=x");
        t.run("b=y+ab");
        is("6 ring", t.run("  x=b+1"), "refused by 4 at 2");
        is("8 ring", t.x.ring(), 3);
        is("9 first in dictionary", t.x.ringAt(0) + " " + t.x.ringAt(1) + " " + t.x.ringAt(2),
            word("x") + " " + word("b") + " " + word("ab"));
        call("9 behind", () -> t.x.ringAt(3), OUT);
        call("9 ahead", () -> t.x.ringAt(-1), OUT);
        is("7 not of a ring", t.x.failed(), -1);
        is("6 ring of function", t.run("f(a)=a*b"), "refused by 4 at 0");
        is("8 ring of function", t.x.ring(), 3);
        is("9 function below 0", t.x.ringAt(0) + " " + t.x.ringAt(1) + " " + t.x.ringAt(2),
            -word("f") + " " + word("b") + " " + word("y"));
        t.run("g(a)=x+a");
        t.run("z=g(1)");
        is("6 names ahead of functions", t.run("x=g(1)+z") + " " + t.x.ringAt(1), "refused by 4 at 0 " + word("z"));
        is("6 a long way ahead of a short one", t.run("x=x+ab") + " " + t.x.ring(), "refused by 4 at 0 2");
        is("6 parameter makes no ring", t.run("g(x)=x+1"), 2);
        is("8 stays", t.x.ring(), 2);
        is("8 other cause", t.run("1/0") + " " + t.x.ring(), "refused by 5 at 1 0");
        call("9 other cause", () -> t.x.ringAt(0), OUT);
    }

    private void zeroWholeGreat() {
        Talk t = new Talk();
        is("6 / 0", t.run("1+2/(1-1)"), "refused by 5 at 3");
        is("6 % 0", t.run("1%0"), "refused by 5 at 1");
        is("6 0 ^ below", t.run("0^-1"), "refused by 5 at 1");
        is("6 whole ahead of zero", t.run("0^-101"), "refused by 6 at 1");
        is("6 exponent not whole", t.run("2^(1/2)"), "refused by 6 at 1");
        is("6 exponent", t.value("1^100") + t.value("1^-100") + t.run("1^101"), "11refused by 6 at 1");
        is("6 ! not whole", t.run("(1/2)!"), "refused by 6 at 5");
        is("6 ! below", t.run("(-1)!"), "refused by 6 at 4");
        is("6 gcd", t.run("1+gcd(1,1/2)"), "refused by 6 at 2");
        is("6 lcm", t.run("lcm(1/2,1)"), "refused by 6 at 0");
        is("6 29!", t.run("29!"), "refused by 7 at 2");
        is("6 great !", t.run(NINES + "!"), "refused by 7 at 12");
        is("6 great", t.run(GREATEST + "+1"), "refused by 7 at 45");
        is("6 not great", t.value(GREATEST + "+1/2-1/2"), "refused by 7 at 45");
        is("6 great below", t.run("-10^30"), "refused by 7 at 3");
        is("6 great denominator", t.run("10^-30"), "refused by 7 at 2");
        is("6 nearly great", t.value("10^-29") + t.value("-10^29"), "1/1" + "0".repeat(29) + "-1" + "0".repeat(29));
        is("6 great lcm", t.run("lcm(" + GREATEST + ",2)"), "refused by 7 at 0");
        is("6 great med", t.run("med(" + GREATEST + ",2)"), "refused by 7 at 0");
        is("6 med in lowest terms", t.value("med(" + GREATEST + "," + GREATEST + ")"), "9".repeat(30));
        is("6 great on the way", t.value("10^20*10^9/10^20") + t.run("10^20*10^10/10^20"),
            "1000000000refused by 7 at 5");
        is("6 great % needs no great floor", t.value("10^29%(10^-29)"), "0");
    }

    private void longLines() {
        Talk t = new Talk();
        t.run("f(x)=x" + "+1".repeat(48));
        is("26 all", t.value("f(f(1))") + " " + t.x.steps(), "97 98");
        is("26 200", t.value("f(f(f(f(1))))+1-1+1-1") + " " + t.x.steps(), "193 200");
        is("6 201", t.run("f(f(f(f(1))))+1-1+1-1+1"), "refused by 8 at 21");
        is("6 201 ahead of zero", t.run("f(f(f(f(1))))+1-1+1-1+1/0"), "refused by 8 at 23");
        is("6 200th", t.run("f(f(f(f(1))))+1-1+1-1/0"), "refused by 5 at 21");
        is("6 201 ahead of whole", t.run("f(f(f(f(1))))+1-1+1+(1/2)!"), "refused by 8 at 25");
        t.run("g(x)=f(f(x))+1+1");
        is("6 the function itself is one step more", t.value("g(g(1))-" + 1) + " " + t.run("g(g(1))"),
            "refused by 8 at 0 refused by 8 at 0");
        t.run("h(x)=f(f(x))+1");
        is("6 200 with functions", t.value("h(h(1))") + " " + t.x.steps(), "195 200");
        is("6 201 with functions", t.run("-h(h(1))"), "refused by 8 at 0");
        t.run("k(x)=f(f(f(f(x))))+1-1+1-1");
        is("6 the step of a function is the 201st", t.run(" k(1)"), "refused by 8 at 1");
        t.run("k(x)=f(f(f(f(x))))+1-1+1");
        is("6 the step of a function is the 200th", t.value("k(1)") + " " + t.x.steps(), "194 200");
        t.run("x=h(h(1))");
        is("6 names have steps of their own", t.value("x+x") + " " + t.x.steps(), "390 1");
    }

    private void greatTexts() {
        Talk t = new Talk();
        is("4 200 tokens", t.value("1" + "+1".repeat(99) + "!") + " " + t.x.steps(), "100 100");
        is("4 199 steps of 200 signs", t.value("1" + "!".repeat(199)) + " " + t.x.steps(), "1 199");
        is("5 at the 200th", t.run("1" + "!".repeat(198) + ")"), "error at 199");
        is("5 behind the 200th", t.run("1" + "+1".repeat(99) + "+"), "error at 200");
        t.run("a(x)=x+1");
        for (char c = 'b'; c < 'k'; c++) {
            char ahead = (char) (c - 1);
            is("4 chain", t.run(c + "(x)=x-" + ahead + "(x)*2"), 2);
        }
        is("4 ten functions", t.value("j(1)") + " " + t.x.steps(), "-853 29");
        is("6 place with ten functions", t.run("3*(j(10^29))"), "refused by 7 at 3");
        t.run("a(x)=1/x");
        is("6 place of what is met deep", t.run("3*(j(0))"), "refused by 5 at 3");
    }

    private void placesInFunctions() {
        Talk t = new Talk();
        t.run("f(a)=1/a");
        t.run("g(a)=f(a)+f(a-1)");
        is("6 in a function", t.run("1+f(0)"), "refused by 5 at 2");
        is("6 outermost", t.run("2*g(1)"), "refused by 5 at 2");
        is("6 of values being worked", t.run("g(f(0))"), "refused by 5 at 2");
        is("6 of values behind", t.run("g(2)+f(1-1)"), "refused by 5 at 5");
        is("6 own sign", t.run("f(1/0)"), "refused by 5 at 3");
        t.run("h(a)=a!");
        is("6 whole in a function", t.run(" h(f(2))"), "refused by 6 at 1");
        is("6 great in a function", t.run("1+(h(29))"), "refused by 7 at 3");
    }

    private void behind() {
        Talk t = new Talk();
        t.run("x=2");
        t.run("b=1/x");
        t.run("ab=b+1");
        t.run("f(a)=a/(x-1)");
        t.run("c=f(1)");
        t.run("d=c+ab");
        is("4 all anew", t.run("x=3"), 1);
        is("4 b", t.x.takeName(word("b")) + " " + t.fraction(), "1 1/3");
        is("4 d", t.x.takeName(word("d")) + " " + t.fraction(), "1 11/6");
        is("6 behind", t.run("  x=0"), "refused by 9 at 0");
        is("7 first to be worked", t.x.failed(), word("b"));
        is("6 behind another", t.run("x=1") + " " + t.x.failed(), "refused by 9 at 0 " + word("c"));
        is("4 nothing changed", t.x.takeName(word("x")) + t.fraction(), "13");
        is("4 b is as before", t.x.takeName(word("b")) + " " + t.fraction(), "1 1/3");
        is("6 function", t.run("f(a)=a/0") + " " + t.x.failed(), "refused by 9 at 0 " + word("c"));
        is("4 function unused may divide by 0", t.run("g(a)=a/0"), 2);
        is("7 other cause", t.run("1/0") + " " + t.x.failed(), "refused by 5 at 1 -1");
        is("4 function anew", t.run("f(a)=a*x") + " " + t.x.takeName(word("d")) + t.fraction(), "2 113/3");
        is("7 fresh", new Talk().x.failed(), -1);
    }

    private void refusedChangesNothing() {
        Talk t = new Talk();
        t.run("x=1+1");
        t.run("y=1/x");
        is("4 answer", t.fraction() + " " + t.steps(), "1/2 4");
        t.run("x=3-2-1");
        is("4 answer stays", t.fraction() + " " + t.steps() + " " + t.x.names(), "1/2 4 2");
        t.run("1+1+q");
        t.run("7*7/0");
        t.run("7*");
        is("4 still", t.fraction() + " " + t.steps(), "1/2 4");
        is("26 function leaves the steps", t.run("f(a)=a+a*a") + " " + t.steps(), "2 4");
        is("45 not a change", t.x.undo(), 2);
    }

    private void answerParts() {
        Talk t = new Talk();
        t.run("-120/7");
        is("10 below", t.x.sign(), -1);
        is("11 both", t.x.digits(false) + " " + t.x.digits(true), "3 1");
        is("12 all", "" + t.x.digit(false, 0) + t.x.digit(false, 1) + t.x.digit(false, 2) + t.x.digit(true, 0), "1207");
        call("12 behind", () -> t.x.digit(false, 3), OUT);
        call("12 behind the denominator", () -> t.x.digit(true, 1), OUT);
        call("12 ahead", () -> t.x.digit(true, -1), OUT);
        t.run("0");
        is("11 zero", t.x.digits(false) + t.x.digits(true) + t.x.digit(false, 0), 2);
        is("10 zero", t.x.sign(), 0);
        t.run("1/" + GREATEST);
        is("11 thirty", t.x.digits(true) + t.x.digit(true, 29) + t.x.sign(), 40);
        t.run("10^9*10^9");
        is("11 zeros", t.x.digits(false) + " " + t.x.digit(false, 0) + t.x.digit(false, 9) + t.x.digit(false, 18),
            "19 100");
    }

    private void writing() {
        Talk t = new Talk();
        t.run("-7/4");
        is("13 fraction", t.x.write(false), 4);
        is("14 fraction", t.written(), "-7/4");
        call("14 behind", () -> t.x.writtenAt(4), OUT);
        call("14 ahead", () -> t.x.writtenAt(-1), OUT);
        is("13 decimals", t.x.write(true) + " " + t.written(), "5 -1.75");
        t.run("1/70");
        is("14 what was written stays", t.written(), "-1.75");
        is("13 both parts", t.decimals(), "0.0[142857]");
        t.run("-12");
        is("13 whole", t.fraction() + t.decimals(), "-12-12");
        t.run("0");
        is("13 zero", t.x.write(true) + t.decimals(), "10");
        t.run("1/101");
        is("13 short", t.decimals(), "0.[0099]");
        t.run("1/97");
        is("13 96 digits", t.x.write(true), 100);
        t.run("1/97/16");
        is("13 100 digits", t.x.write(true), 104);
        t.run("1/97/32");
        is("13 101 digits", t.x.write(true), -1);
        is("13 stays", t.written().length(), 104);
        t.run("2^-99");
        is("13 99 ahead", t.x.write(true), 101);
        t.run("1/60101");
        is("13 100 repeat", t.x.write(true), 104);
        t.run("1/60101/2");
        is("13 100 repeat, one ahead", t.x.write(true), -1);
        t.run("1/" + GREATEST);
        is("13 thirty repeat", t.decimals(), "0.[" + "0".repeat(29) + "1]");
        t.run("-" + GREATEST + "/7");
        is("13 long fraction", t.fraction(), "-" + new java.math.BigInteger("9".repeat(30))
            .divide(java.math.BigInteger.valueOf(7)));
    }

    private void slots() {
        Talk t = new Talk();
        t.run("-1/2");
        is("15 zero there", t.x.keep(3), 0);
        t.run("-1/3");
        is("15 value there", t.x.keep(3), -1);
        is("15 second", t.x.keep(9), 0);
        t.run("2");
        t.x.keep(0);
        is("16 take", t.x.take(3) + t.fraction(), "-1-1/3");
        is("16 untouched", t.x.take(8) + t.fraction(), "00");
        is("17 same", t.x.compare(3, 9), 0);
        is("17 less", t.x.compare(3, 8), -1);
        is("17 greater", t.x.compare(0, 3), 1);
        for (int slot : new int[] {-1, 10, Integer.MIN_VALUE}) {
            call("15 range", () -> t.x.keep(slot), BAD);
            call("16 range", () -> t.x.take(slot), BAD);
            call("17 range", () -> t.x.compare(slot, 0), BAD);
            call("17 other range", () -> t.x.compare(0, slot), BAD);
        }
        is("48 wholes", t.x.wholes(), 8 / 10.0f);
        is("45 slots are no change", t.x.undo(), -1);
    }

    private void names() {
        Talk t = new Talk();
        String[] words = {"b", "a", "ab", "zzzzzz", "aa", "aaaaaa"};
        for (String word : words) {
            t.run(word + "=-" + word.length() + "/7");
        }
        StringBuilder order = new StringBuilder();
        for (int i = 0; i < t.x.names(); i++) {
            order.append(t.x.nameAt(i)).append(' ');
        }
        is("19 dictionary", order.toString(), word("a") + " " + word("aa") + " " + word("aaaaaa") + " " + word("ab")
            + " " + word("b") + " " + word("zzzzzz") + " ");
        call("19 behind", () -> t.x.nameAt(6), OUT);
        call("19 ahead", () -> t.x.nameAt(-1), OUT);
        is("20 take", t.x.takeName(word("ab")) + t.fraction(), "-1-2/7");
        call("20 no word", () -> t.x.takeName(27), NO_SUCH);
        call("20 zero", () -> t.x.takeName(0), NO_SUCH);
        call("20 other word", () -> t.x.takeName(3), NO_SUCH);
        call("20 below", () -> t.x.takeName(-2), NO_SUCH);
        is("20 changes nothing", t.fraction(), "-2/7");
        t.run("f(x)=x");
        call("20 function", () -> t.x.takeName(6), NO_SUCH);
        is("18 again", t.run("a=1") + " " + t.x.names(), "1 6");
    }

    private void functions() {
        Talk t = new Talk();
        t.run("f(a)=1");
        t.run("g(a,b,c,d)=a+c");
        is("21 two", t.x.functions(), 2);
        is("22 both", t.x.parameters(6) + " " + t.x.parameters(7), "1 4");
        t.run("x=1");
        call("22 name", () -> t.x.parameters(24), NO_SUCH);
        call("22 known at first", () -> t.x.parameters(word("abs")), NO_SUCH);
        call("22 none", () -> t.x.parameters(-6), NO_SUCH);
        is("22 told again", t.run("f(a,b)=a") + " " + t.x.parameters(6) + t.x.functions(), "2 22");
        is("4 parameters in order", t.value("g(1,20,300,4000)"), "301");
    }

    private void usesAndUsers() {
        Talk t = new Talk();
        t.run("x=1");
        t.run("f(x,a)=x+a");
        t.run("g(a)=f(a,x)");
        t.run("y=g(1)");
        t.run("z=y");
        t.run("f=x");
        is("23 directly", t.x.uses(word("y"), false, word("g"), true), true);
        is("23 by others", t.x.uses(word("z"), false, word("f"), true), true);
        is("23 name of the same word", t.x.uses(word("z"), false, word("f"), false), false);
        is("23 parameter", t.x.uses(word("f"), true, word("x"), false), false);
        is("23 function", t.x.uses(word("g"), true, word("x"), false), true);
        is("23 itself", t.x.uses(word("z"), false, word("z"), false), false);
        is("23 backwards", t.x.uses(word("g"), true, word("y"), false), false);
        is("23 none such", t.x.uses(word("q"), false, word("x"), false), false);
        is("23 none such used", t.x.uses(word("z"), false, word("x"), true), false);
        t.run("k=abs(1)");
        is("23 known at first", t.x.uses(word("k"), false, word("abs"), true), false);
        is("24 known at first", t.x.users(word("abs"), true), 0);
        is("24 by others", t.x.users(word("x"), false), 3);
        is("24 function", t.x.users(word("f"), true), 2);
        is("24 names alone", t.x.users(word("g"), true), 2);
        is("24 none", t.x.users(word("z"), false), 0);
        is("24 none such", t.x.users(word("x"), true) + t.x.users(-1, false), 0);
    }

    private void dropping() {
        Talk t = new Talk();
        t.run("x=1");
        t.run("f(a)=a+x");
        t.run("y=f(1)");
        call("25 used", () -> t.x.drop(word("x"), false), STATE);
        call("25 used function", () -> t.x.drop(word("f"), true), STATE);
        call("25 none such", () -> t.x.drop(word("f"), false), NO_SUCH);
        call("25 known at first", () -> t.x.drop(word("gcd"), true), NO_SUCH);
        is("25 left", t.x.drop(word("y"), false), 2);
        call("25 used by a function", () -> t.x.drop(word("x"), false), STATE);
        is("25 function", t.x.drop(word("f"), true), 1);
        is("25 last", t.x.drop(word("x"), false), 0);
        is("25 unknown then", t.run("x"), "refused by 1 at 0");
        is("25 is a change", t.x.undo() + t.x.undo() + t.x.names() + t.x.functions(), 4 + 5 + 1 + 1);
        is("25 answer stays", t.fraction(), "2");
    }

    private void steps() {
        Talk t = new Talk();
        t.run("f(a)=a*a");
        t.run("-f(1+2)-3/4%5^2!");
        is("27 kinds", t.steps(), "1 3 9 8 4 7 6 5 2");
        t.run("gcd(1,2)+lcm(1,2)+floor(1)+ceil(1)+near(1)+abs(1)+med(1,2)+num(1)+den(1)+min(1,2)+max(1,2)");
        is("27 known", t.steps(), "10 11 1 12 1 13 1 14 1 15 1 16 1 17 1 18 1 19 1 20 1");
        t.run("1/2-3/4");
        call("27 behind", () -> t.x.stepAt(3), OUT);
        call("27 ahead", () -> t.x.stepAt(-1), OUT);
        is("28 take", t.x.takeStep(1) + t.fraction(), "13/4");
        is("28 steps stay", t.x.takeStep(2) + t.fraction(), "-1-1/4");
        is("28 first", t.x.takeStep(0) + t.fraction() + t.x.steps(), "11/23");
        call("28 behind", () -> t.x.takeStep(3), OUT);
        is("26 name", t.run("x=2+2") + " " + t.x.steps(), "1 1");
        t.run("y=x+x+x");
        t.run("x=1");
        is("26 not of those worked anew", t.x.steps(), 0);
        is("28 of a line that stays", t.run("1/0") + " " + t.x.steps(), "refused by 5 at 1 0");
    }

    private void decimals() {
        Talk t = new Talk();
        t.run("-1/12");
        is("29 do not end", t.x.ends(), false);
        is("30 ahead", t.x.ahead(), 2);
        is("31 repeating", t.x.repeating(), 1);
        is("32 digits", "" + t.x.decimal(1) + t.x.decimal(2) + t.x.decimal(3) + t.x.decimal(1000), "0833");
        call("32 none", () -> t.x.decimal(0), BAD);
        call("32 too far", () -> t.x.decimal(1001), BAD);
        t.run("17/40");
        is("29 end", t.x.ends(), true);
        is("30 31 end", t.x.ahead() + " " + t.x.repeating(), "3 0");
        is("32 end", "" + t.x.decimal(3) + t.x.decimal(4) + t.x.decimal(1000), "500");
        t.run("7");
        is("29 whole", t.x.ends(), true);
        is("30 whole", t.x.ahead() + t.x.repeating() + t.x.decimal(1), 0);
        t.run("1/983");
        is("31 982", t.x.repeating(), 982);
        t.run("1/1019");
        is("31 1018", t.x.repeating(), -1);
        t.run("1/(73*751)");
        is("31 1000", t.x.repeating(), 1000);
        t.run("1/(73*751*60101*27961*21401*5051)");
        is("31 1000 of a great denominator", t.x.repeating(), 1000);
        t.run("1/(239*21649*53)");
        is("31 1001", t.x.repeating(), -1);
        t.run("1/(239*4649*21649*513239*53)");
        is("31 1001 of a great denominator", t.x.repeating(), -1);
        t.run("1/(239*4649*21649*513239*11)");
        is("31 154 of a great denominator", t.x.repeating(), 154);
        t.run("1/(2^3*5^5*7)");
        is("30 the greater one", t.x.ahead() + " " + t.x.repeating(), "5 6");
        t.run("1/(10^29-1)");
        is("31 great", t.x.repeating() + " " + t.x.ahead(), "29 0");
        is("32 great", "" + t.x.decimal(28) + t.x.decimal(29) + t.x.decimal(30) + t.x.decimal(58), "0101");
        t.run("1/" + GREATEST + "/1");
        is("31 greatest", t.x.repeating(), 30);
        t.run("1/(10^29+1)");
        is("31 great twice", t.x.repeating(), 58);
        t.run("1/(10^29+7)");
        is("31 too great", t.x.repeating(), -1);
    }

    private void continuedForm() {
        Talk t = new Talk();
        t.run("-43/30");
        is("33 length", t.x.continued(), 5);
        int[] form = {-2, 1, 1, 3, 4};
        for (int i = 0; i < form.length; i++) {
            t.run("-43/30");
            is("34 number", t.x.takeContinued(i) + " " + t.fraction(), Integer.signum(form[i]) + " " + form[i]);
        }
        t.run("-43/30");
        call("34 behind", () -> t.x.takeContinued(5), OUT);
        call("34 ahead", () -> t.x.takeContinued(-1), OUT);
        is("34 changes nothing", t.fraction(), "-43/30");
        t.run("5");
        is("33 whole", t.x.continued() + t.x.takeContinued(0) + t.fraction(), "25");
        t.run("1/7");
        is("34 zero", t.x.takeContinued(0) + t.fraction(), "00");
        t.run(GREATEST + "/(10^29)");
        is("33 great", t.x.continued() + " " + t.x.takeContinued(1) + t.fraction(), "3 11");
    }

    private void best() {
        Talk t = new Talk();
        t.run("3.141592");
        is("35 less", t.x.takeBest(1) + t.fraction(), "-13");
        t.run("3.141592");
        is("35 greater", t.x.takeBest(10) + t.fraction(), "122/7");
        t.run("3.141592");
        is("35 1000", t.x.takeBest(1000) + t.fraction(), "1355/113");
        is("35 same", t.x.takeBest(113) + t.fraction(), "0355/113");
        t.run("-1/2");
        is("35 lesser of two", t.x.takeBest(1) + t.fraction(), "-1-1");
        t.run("5/12");
        is("35 least denominator of two", t.x.takeBest(3) + t.fraction(), "11/2");
        t.run("7/12");
        is("35 least denominator of two above", t.x.takeBest(3) + t.fraction(), "-11/2");
        t.run("12");
        is("35 whole", t.x.takeBest(1000) + t.fraction(), "012");
        t.run("-10^-29");
        is("35 small", t.x.takeBest(1000) + t.fraction(), "10");
        t.run(GREATEST + "/2");
        is("35 great", t.x.takeBest(1) + t.fraction(), "-1" + "4" + "9".repeat(29));
        call("35 range", () -> t.x.takeBest(0), BAD);
        call("35 range above", () -> t.x.takeBest(1001), BAD);
    }

    private void units() {
        Talk t = new Talk();
        t.run("4/13");
        is("36 count", t.x.units(), 3);
        is("37 first", t.x.takeUnit(0) + t.fraction(), "11/4");
        t.run("4/13");
        is("37 last", t.x.takeUnit(2) + t.fraction(), "31/468");
        t.run("4/13");
        call("37 behind", () -> t.x.takeUnit(3), OUT);
        call("37 ahead", () -> t.x.takeUnit(-1), OUT);
        t.run("1/7");
        is("36 one", t.x.units() + t.x.takeUnit(0) + t.fraction(), "21/7");
        for (String none : new String[] {"0", "1", "-1/2", "3/2", "7"}) {
            t.run(none);
            is("36 none of " + none, t.x.units(), -1);
            call("37 none of " + none, () -> t.x.takeUnit(0), OUT);
        }
        t.run("31/311");
        is("36 too great on the way", t.x.units(), -1);
        t.run("1-1/" + NINES);
        is("36 great", t.x.units(), -1);
    }

    private void rows() {
        Talk t = new Talk();
        for (String value : new String[] {"3", "1/2", "-2", "1/2", "7"}) {
            t.run(value);
            t.x.put(1);
        }
        is("38 count", t.x.put(1), 6);
        is("38 other rows", t.x.put(0), 1);
        is("41 less", t.x.count(1, false), 4);
        is("41 same", t.x.count(1, true), 2);
        is("42 least", t.x.takeLeast(1, 0) + t.fraction(), "-1-2");
        is("42 greatest", t.x.takeLeast(1, 5) + t.fraction(), "17");
        call("42 behind", () -> t.x.takeLeast(1, 6), OUT);
        call("42 range first", () -> t.x.takeLeast(3, 6), BAD);
        call("43 none", () -> t.x.takeNext(1), NO_SUCH);
        t.run("-2");
        is("43 next", t.x.takeNext(1) + t.fraction(), "21/2");
        is("43 next again", t.x.takeNext(1) + t.fraction(), "13");
        call("39 not in it", () -> t.x.out(0), NO_SUCH);
        t.run("1/2");
        is("39 once", t.x.out(1) + " " + t.x.count(1, true), "5 1");
        is("40 empty", t.x.empty(1) + " " + t.x.empty(1), "5 0");
        call("43 empty", () -> t.x.takeNext(1), NO_SUCH);
        for (int i = 1; i <= 50; i++) {
            is("38 fills", t.x.put(2), i);
        }
        call("38 full", () -> t.x.put(2), STATE);
        for (int row : new int[] {-1, 3}) {
            call("38 range", () -> t.x.put(row), BAD);
            call("39 range", () -> t.x.out(row), BAD);
            call("40 range", () -> t.x.empty(row), BAD);
            call("41 range", () -> t.x.count(row, true), BAD);
            call("42 range", () -> t.x.takeLeast(row, 0), BAD);
            call("43 range", () -> t.x.takeNext(row), BAD);
            call("44 range", () -> t.x.takeAll(row, 0), BAD);
        }
    }

    private void takeAll() {
        Talk t = new Talk();
        is("44 empty sum", t.x.takeAll(0, 0) + t.fraction(), "00");
        is("44 empty product", t.x.takeAll(0, 1) + t.fraction(), "11");
        call("44 empty mean", () -> t.x.takeAll(0, 2), NO_SUCH);
        call("44 what", () -> t.x.takeAll(0, 3), BAD);
        call("44 what below", () -> t.x.takeAll(0, -1), BAD);
        for (String value : new String[] {"1/2", "-1/3", "1/4"}) {
            t.run(value);
            t.x.put(0);
        }
        is("44 sum", t.x.takeAll(0, 0) + t.fraction(), "15/12");
        is("44 product", t.x.takeAll(0, 1) + t.fraction(), "-1-1/24");
        is("44 mean", t.x.takeAll(0, 2) + t.fraction(), "15/36");
        for (String value : new String[] {"10^29", "10^29+1/(10^0)", "10^-29", "1/" + GREATEST}) {
            t.run(value);
            t.x.put(1);
        }
        call("44 no value", () -> t.x.takeAll(1, 0), REFUSED);
        is("44 answer stays", t.fraction(), "1/" + "9".repeat(30));
        Talk u = new Talk();
        for (int i = 0; i < 25; i++) {
            u.run("(10^29-" + i + ")/7^" + i);
            u.x.put(0);
            u.run("7^" + i + "/(10^29-" + i + ")");
            u.x.put(0);
        }
        is("44 product, great on the way", u.x.takeAll(0, 1) + u.fraction(), "11");
        call("44 sum is no value", () -> u.x.takeAll(0, 0), REFUSED);
        u.x.empty(0);
        for (int i = 0; i < 21; i++) {
            u.run("10^29*9+" + i);
            u.x.put(0);
        }
        call("44 sum great", () -> u.x.takeAll(0, 0), REFUSED);
        is("44 mean, great on the way", u.x.takeAll(0, 2) + u.fraction(), "19" + "0".repeat(27) + "10");
    }

    private void undo() {
        Talk t = new Talk();
        t.run("x=1");
        t.run("y=x+1");
        t.run("f(a)=a*x");
        t.run("x=5");
        is("4 anew", t.x.takeName(word("y")) + t.fraction(), "16");
        is("45 name", t.x.undo(), 3);
        is("45 answer stays", t.fraction(), "6");
        is("45 values", t.x.takeName(word("y")) + t.fraction(), "12");
        is("45 function", t.x.undo() + " " + t.x.functions(), "2 0");
        is("46 function", t.x.redo() + " " + t.x.functions(), "1 1");
        is("46 values", t.x.redo() + " " + t.x.takeName(word("y")) + t.fraction(), "0 16");
        is("46 none", t.x.redo(), -1);
        t.x.undo();
        is("46 refused line leaves it", t.run("1/0") + " " + t.x.redo(), "refused by 5 at 1 0");
        t.x.undo();
        is("46 sum leaves it", t.run("1") + " " + t.x.redo(), "0 0");
        t.x.undo();
        t.x.put(0);
        is("46 change ends it", t.x.redo(), -1);
        is("45 rows", t.x.put(0) + t.x.undo() + t.x.count(0, true), 7);
        t.x.redo();
        t.x.out(0);
        is("45 out", t.x.undo() + " " + t.x.count(0, true), "5 2");
        t.x.empty(0);
        t.x.empty(0);
        is("45 empty", t.x.undo() + " " + t.x.count(0, true), "6 0");
        is("45 empty again", t.x.undo() + " " + t.x.count(0, true), "5 2");
        Talk u = new Talk();
        for (int i = 0; i < 25; i++) {
            u.run("x=" + i);
        }
        for (int i = 19; i >= 0; i--) {
            is("45 twenty", u.x.undo(), i);
        }
        is("45 not more", u.x.undo(), -1);
        is("45 oldest", u.x.takeName(24) + u.fraction(), "14");
        is("46 all", u.x.redo(), 19);
        u.run("x=100");
        is("45 behind a change", u.x.undo() + " " + u.x.undo() + " " + u.x.undo(), "1 0 -1");
    }

    private void figures() {
        Talk t = new Talk();
        is("47 none", t.x.meanDigits(), 0.0);
        t.run("a=1/1000");
        t.run("b=3");
        t.run("c=1/7");
        t.x.keep(0);
        is("47 mean", t.x.meanDigits(), 2.0);
        t.run("c=1/" + GREATEST);
        t.x.keep(1);
        is("47 thirds", t.x.meanDigits(), 35.0 / 3.0);
        t.run("-" + GREATEST + "/2");
        t.x.keep(9);
        is("48 share", t.x.wholes(), 0.7f);
        is("49 none", t.x.errors(), 0);
        t.run("d=a+b*c");
        is("49 changes nothing", t.run("7*6") + " " + t.x.errors() + t.fraction() + t.steps(), "0 0423");
    }
}
