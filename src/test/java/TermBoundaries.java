/** The sentences of "What it is" and of the Terms 1 to 3: values, lines, what is worked. */
final class TermBoundaries extends Quoting {
    /** 49 steps for a call. */
    private static final String LONG_F = "f(x)=x" + "+1".repeat(48);
    /** 196 steps, 13 signs. */
    private static final String FOUR_F = "f(f(f(f(1))))";

    private TermBoundaries(Report report, Sentences sentences) {
        super(report, sentences);
    }

    static void runAll(Report report, Sentences sentences) {
        TermBoundaries tests = new TermBoundaries(report, sentences);
        tests.object();
        tests.values();
        tests.grammarOfLines();
        tests.grammarOfPowers();
        tests.words();
        tests.numbers();
        tests.bytes();
        tests.whereReadingStops();
        tests.forms();
        tests.order();
        tests.signs();
        tests.powers();
        tests.knownFunctions();
        tests.roundedValues();
        tests.toldFunctions();
        tests.unknown();
        tests.taken();
        tests.room();
        tests.ring();
        tests.zero();
        tests.whole();
        tests.great();
        tests.longLines();
        tests.behind();
        tests.orderOfCauses();
        tests.placesInFunctions();
        tests.end();
    }

    private void object() {
        passesOver("What it is", "A calculator of fractions that are exactly what is said: texts with names and functions"
            + " that are told, dependants that are worked anew, refusals with their causes and places, the steps of each"
            + " answer, decimals with their repeating parts, continued forms, sums of unit fractions, best"
            + " approximations, rows of values, undo and redo.");
        says("What it is", "An object is used for at most 512 calls after it has been made; what later calls answer is"
            + " free.");
        Talk t = new Talk();
        for (int i = 0; i < 255; i++) {
            t.x.append(0x783d0000 | '0' + i % 10 << 8, 0, 0, 0, 0);
            is("line " + i, t.x.run(), 1);
        }
        is("the 511th call", t.x.undo(), 19);
        is("the 512th call", t.x.takeName(word("x")), 1);
        Talk rows = new Talk();
        for (int i = 0; i < 256; i++) {
            is("put " + i, rows.x.put(0), 1);
            is("out " + i, rows.x.out(0), 0);
        }
        passesOver("Terms", "Numbers are java.math.BigIntegers, names and rows TreeMaps, what can be undone ArrayDeques.");
    }

    private void values() {
        says("Term 1", "A value is a fraction of whole numbers in lowest terms: a numerator and a denominator, which is"
            + " above 0 and has no common factor with the numerator (0 is 0/1).");
        Talk t = new Talk();
        is("a common factor", t.value("6/4"), "3/2");
        is("a divisor below 0", t.value("3/-6"), "-1/2");
        is("both below 0", t.value("-3/-6"), "1/2");
        is("0", t.value("0/-7") + " " + t.x.digits(true) + t.x.digit(true, 0) + t.x.sign(), "0 110");
        is("0 by a difference", t.value("5/6-10/12") + t.x.digits(true) + t.x.digit(true, 0), "011");

        says("Term 1", "Both must be less than 10 to the power of 30, the numerator without its sign.");
        is("the greatest numerator", t.value(GREATEST), NINES);
        is("one more", t.run(GREATEST + "+1"), "refused by 7 at 45");
        is("the least numerator", t.value("-" + GREATEST), "-" + NINES);
        is("one less", t.run("-" + GREATEST + "-1"), "refused by 7 at 46");
        is("the greatest denominator", t.value("1/" + GREATEST), "1/" + NINES);
        is("one more below", t.run("10^-29/10"), "refused by 7 at 6");
        is("both the greatest", t.value("(" + GREATEST + "-1)/" + GREATEST), "9".repeat(29) + "8/" + NINES);
        is("a numerator of 10^30", t.run("1/" + GREATEST + "+1"), "refused by 7 at 47");
        is("a numerator of 2-10^30", t.value("1/" + GREATEST + "-1"), "-" + "9".repeat(29) + "8/" + NINES);
        is("what would be less again", t.run(GREATEST + "*2/2"), "refused by 7 at 45");
        is("great ahead of lowest terms", t.value(GREATEST + "/3*(3/" + GREATEST + ")"), "1");

        says("Term 1", "A value is whole if its denominator is 1.");
        is("4/2", t.value("(4/2)!"), "2");
        is("5/2", t.run("(5/2)!"), "refused by 6 at 5");
        is("0", t.value("(0/3)!"), "1");
        is("below 0", t.value("gcd(-4/2,-6/2)"), "1");
    }

    private void grammarOfLines() {
        passesOver("Term 2", "A line is a text on the tape. Its grammar is (curly braces: zero or more times; square"
            + " brackets without quotes: once or not at all):");
        says("Term 2", "line = [ WORD [ '(' WORD { ',' WORD } ')' ] '=' ] sum");
        Talk t = new Talk();
        is("neither", t.run("1"), 0);
        is("a WORD", t.run("x=1"), 1);
        is("one in ( )", t.run("f(a)=a"), 2);
        is("two in ( )", t.run("f(a,b)=a"), 2);
        is("none in ( )", t.run("f()=1"), "error at 2");
        is("a comma at the end", t.run("f(a,)=1"), "error at 4");
        is("a comma at the beginning", t.run("f(,a)=1"), "error at 2");
        is("no comma", t.run("f(a b)=1"), "error at 4");
        is("two ( )", t.run("f(a)(b)=1"), "error at 4");
        is("no WORD", t.run("=1"), "error at 0");
        is("a NUMBER", t.run("1=1"), "error at 1");
        is("a WORD in ( )", t.run("(x)=1"), "error at 3");
        is("no sum", t.run("x="), "error at 2");
        is("no sum of a function", t.run("f(a)="), "error at 5");
        is("two =", t.run("x=x=1"), "error at 3");
        is("more than a sum", t.run("1 1"), "error at 2");

        says("Term 2", "sum = product { ( '+' | '-' ) product }");
        is("one", t.value("1"), "1");
        is("three", t.value("1+2-4"), "-1");
        is("a hundred", t.value("1" + "-1".repeat(99)), "-98");
        is("none behind", t.run("1+"), "error at 2");
        is("none ahead", t.run("+1"), "error at 0");
        is("two +", t.run("1++1"), "error at 2");
        is("a - behind a +", t.value("1+-1"), "0");

        says("Term 2", "product = minus { ( '*' | '/' | '%' ) minus }");
        is("four", t.value("2*3/4%1"), "1/2");
        is("a hundred", t.value("1" + "*1".repeat(99)), "1");
        is("none behind", t.run("2*"), "error at 2");
        is("none ahead", t.run("/2"), "error at 0");
        is("two *", t.run("2**2"), "error at 2");
        is("a - behind a %", t.value("2%-3"), "-1");
        is("a + behind a *", t.run("2*+3"), "error at 2");
    }

    private void grammarOfPowers() {
        Talk t = new Talk();
        says("Term 2", "minus = '-' minus | power");
        is("one", t.value("-1"), "-1");
        is("two", t.value("--1"), "1");
        is("none behind", t.run("-"), "error at 1");
        is("a + behind", t.run("-+1"), "error at 1");
        is("a power", t.value("-2^2"), "-4");

        says("Term 2", "power = fact [ '^' minus ]");
        is("two", t.value("2^3^2"), "512");
        is("in ( )", t.value("(2^3)^2"), "64");
        is("a -", t.value("2^-2^2"), "1/16");
        is("two -", t.value("2^--1"), "2");
        is("a - and a sign", t.run("(2^-)*1"), "error at 4");
        is("none behind", t.run("2^"), "error at 2");
        is("none ahead", t.run("^2"), "error at 0");
        is("a + behind", t.run("2^+1"), "error at 2");
        is("a fact", t.value("2^3!"), "64");

        says("Term 2", "fact = plain { '!' }");
        is("two", t.value("3!!"), "720");
        is("a hundred", t.value("1" + "!".repeat(100)), "1");
        is("none ahead", t.run("!1"), "error at 0");
        is("a NUMBER behind", t.run("3!2"), "error at 2");
        is("behind a -", t.value("-3!"), "-6");
        is("behind a power", t.value("(2^2)!"), "24");

        says("Term 2", "plain = NUMBER | WORD | WORD '(' sum { ',' sum } ')' | '(' sum ')'");
        is("a NUMBER", t.value("7"), "7");
        is("a WORD", t.run("x=3") + t.value("x"), "13");
        is("one sum", t.value("abs(1-3)"), "2");
        is("two sums", t.value("gcd(2+2,3!)"), "2");
        is("no sum", t.run("abs()"), "error at 4");
        is("a comma at the end", t.run("gcd(4,)"), "error at 6");
        is("a comma at the beginning", t.run("gcd(,4)"), "error at 4");
        is("a sign at the beginning", t.run("abs(+1)"), "error at 4");
        is("a sign behind the comma", t.run("gcd(4,*2)"), "error at 6");
        is("no sum in ( )", t.run("(abs())"), "error at 5");
        is("no sum in a call", t.run("gcd(abs(),1)"), "error at 8");
        is("a ! in ( )", t.run("(!)"), "error at 1");
        is("a sign at the beginning of ( )", t.run("(+1)"), "error at 1");
        is("no comma", t.run("gcd(4 6)"), "error at 6");
        is("no ) of a call", t.run("gcd(4,6"), "error at 7");
        is("( )", t.value("((3))"), "3");
        is("nothing in ( )", t.run("()"), "error at 1");
        is("two in ( )", t.run("(1,2)"), "error at 2");
        is("no )", t.run("(1"), "error at 2");
        is("no (", t.run("1)"), "error at 1");
        is("a NUMBER ahead of (", t.run("2(3)"), "error at 1");
        is("a ) ahead of (", t.run("(abs)(1)"), "error at 5");
    }

    private void words() {
        says("Term 2", "WORD is a maximal run of 1 to 6 letters a to z.");
        Talk t = new Talk();
        is("one letter", t.run("z=1"), 1);
        is("six letters", t.run("zzzzzz=1"), 1);
        is("six letters a", t.run("aaaaaa=2") + t.value("aaaaaa-zzzzzz"), "11");
        is("seven letters", t.run("zzzzzzz=1"), "error at 0");
        is("seven letters in a sum", t.run("1+zzzzzzz"), "error at 2");
        is("seven letters in ( )", t.run("f(abcdefg)=1"), "error at 2");
        is("seven letters called", t.run("abcdefg(1)"), "error at 0");
        is("200 letters", t.run("a".repeat(200)), "error at 0");
        is("maximal", t.run("ab=1") + " " + t.run("ab"), "1 0");
        is("two words", t.run("a b"), "error at 2");
        is("a capital behind", t.run("zA"), "error at 1");
        is("a digit behind", t.run("z1"), "error at 1");
    }

    private void numbers() {
        says("Term 2", "NUMBER is a maximal run of digits, 1 to 12 of them, then, if a point follows directly, this point"
            + " and behind it directly digits, 0 to 6 of them, and, if a '[' follows directly, this, 1 to 6 digits and a"
            + " ']'; behind the point there must be a digit or a '['.");
        Talk t = new Talk();
        is("one digit", t.value("0"), "0");
        is("twelve", t.value("999999999999"), "999999999999");
        is("twelve with zeros ahead", t.value("000000000007"), "7");
        is("thirteen with zeros ahead", t.run("0000000000007"), "error at 0");
        is("one behind the point", t.value("1.5"), "3/2");
        is("six behind the point", t.value("1.000001"), "1000001/1000000");
        is("none behind the point", t.run("1."), "error at 0");
        is("a sign behind the point", t.run("1.+1"), "error at 0");
        is("a space behind the point", t.run("1. 5"), "error at 0");
        is("a space ahead of the point", t.run("1 .5"), "error at 2");
        is("no digit ahead of the point", t.run(".5"), "error at 0");
        is("two points", t.run("1..5"), "error at 0");
        is("a second point", t.run("1.5.5"), "error at 3");
        is("none ahead of [", t.value("1.[1]"), "10/9");
        is("six in [ ]", t.value("0.[000001]"), "1/999999");
        is("six and six", t.value("0.000000[000001]"), "1/999999000000");
        is("none in [ ]", t.run("1.[]"), "error at 0");
        is("a letter in [ ]", t.run("1.[a]"), "error at 0");
        is("a space in [ ]", t.run("1.[3 ]"), "error at 0");
        is("a space behind [", t.run("1.5[ 3]"), "error at 0");
        is("a space ahead of [", t.run("1.5 [3]"), "error at 4");
        is("no point ahead of [", t.run("1[3]"), "error at 1");
        is("two [ ]", t.run("1.5[3][3]"), "error at 6");
        is("a point behind [ ]", t.run("1.5[3].1"), "error at 6");
        is("a NUMBER behind [ ]", t.run("1.5[3]1"), "error at 6");

        says("Term 2", "(A NUMBER whose point, digits behind it or [ ] are not so, or with more digits than that on one"
            + " side of its point, is no token, at its first digit.)");
        is("the point", t.run("2+1."), "error at 2");
        is("thirteen", t.run("2+1234567890123"), "error at 2");
        is("thirteen ahead of the point", t.run("2+1234567890123.5"), "error at 2");
        is("seven behind the point", t.run("2+1.1234567"), "error at 2");
        is("seven ahead of [", t.run("2+1.1234567[1]"), "error at 2");
        is("seven in [ ]", t.run("2+1.5[1234567]"), "error at 2");
        is("none in [ ]", t.run("2+1.5[]"), "error at 2");
        is("[ at the end", t.run("2+1.5["), "error at 2");
        is("no ]", t.run("2+1.5[3"), "error at 2");
        is("a sign for ]", t.run("2+1.5[3)"), "error at 2");
        is("at the end of the tape", t.run(" ".repeat(187) + "9".repeat(13)), "error at 187");
        is("twelve there", t.value(" ".repeat(188) + "9".repeat(12)), "9".repeat(12));

        says("Term 2", "The digits in [ ] repeat without end: 0.1[6] is 1/6.");
        is("1/6", t.value("0.1[6]"), "1/6");
        is("nines", t.value("0.[9]"), "1");
        is("six nines", t.value("999999999999.999999[999999]"), "1000000000000");
        is("zeros", t.value("2.5[000000]"), "5/2");
        is("two that repeat", t.value("12.3[45]"), "679/55");
        is("one that repeats behind six", t.value("0.000000[1]"), "1/9000000");
    }

    /** Whether a byte stands in this text. */
    private static boolean isOf(String signs, int b) {
        return signs.indexOf(b) >= 0;
    }

    private void bytes() {
        Talk t = new Talk();
        says("Term 2", "Tokens are WORDs, NUMBERs, and the signs = ( ) , + - * / % ^ ! .");
        is("all signs", t.run("f(a,b)=-a+b*a/b%a^b!"), 2);
        is("the point is none", t.run("1+."), "error at 2");

        says("Term 2", "The bytes 32 and 10 may stand ahead of, between and behind tokens.");
        is("all three", t.value("\n 1 \n+ 2\n "), "3");
        is("in the head", t.run(" f\n( a , b\n) = a "), 2);
        is("in a call", t.value(" f ( 1 ,\n2 ) !"), "1");
        is("not in a WORD", t.run("ab=1") + " " + t.run("a b"), "1 error at 2");
        is("not in a NUMBER", t.run("1 2"), "error at 2");
        is("199 of them", t.value(" ".repeat(199) + "5"), "5");

        says("Term 2", "Everything else, so also a longer run of letters or digits, is no token.");
        for (int b = 1; b < 256; b++) {
            Talk each = new Talk();
            Object due = isOf("0123456789+-*/%^.", b) ? 0 : isOf(" \n!", b) ? "error at 2" : "error at 1";
            is("byte " + b + " between", each.run("1" + (char) b + "1"), due);
            due = isOf("0123456789- \n", b) ? 0 : b == '(' ? "error at 2"
                : b >= 'a' && b <= 'z' ? "error at 1" : "error at 0";
            is("byte " + b + " ahead", each.run((char) b + "1"), due);
            due = isOf("0123456789!\n ", b) ? 0 : isOf("+-*/%^", b) ? "error at 2" : b == '.' ? "error at 0"
                : "error at 1";
            is("byte " + b + " behind", each.run("1" + (char) b), due);
        }
    }

    private void whereReadingStops() {
        says("Term 2", "Reading stops at the first token that does not fit: it is no token, the grammar does not allow it"
            + " there, it is a '(' or a '-' (one of minus, not of sum) or a '^' while 12 of these three kinds together"
            + " are open (a '(' until its ')', a '-' and a '^' until its minus is read), or a WORD as the 5th one"
            + " between the ( and the ) ahead of the =, or one that stands there already.");
        Talk t = new Talk();
        String twelve = "(".repeat(12);
        is("12 (", t.value(twelve + "1" + ")".repeat(12)), "1");
        is("13 (", t.run(twelve + "(1"), "error at 12");
        is("a ( until its )", t.value(twelve + "1)+(1)" + ")".repeat(11)), "2");
        is("a ( ahead of its )", t.run(twelve + "1+(1)" + ")".repeat(12)), "error at 14");
        is("12 -", t.value("-".repeat(12) + "1"), "1");
        is("13 -", t.run("-".repeat(13) + "1"), "error at 12");
        is("a - until its minus is read", t.value("-".repeat(12) + "1*-1"), "-1");
        is("a ^ in this minus", t.run("-".repeat(12) + "1^1"), "error at 13");
        is("a ( in this minus", t.run("-".repeat(12) + "(1)"), "error at 12");
        is("12 ^", t.value("1^".repeat(12) + "1"), "1");
        is("13 ^", t.run("1^".repeat(13) + "1"), "error at 25");
        is("a ^ until its minus is read", t.value("1^".repeat(12) + "1*(1^1)"), "1");
        is("a - in this minus", t.run("1^".repeat(12) + "-1"), "error at 24");
        is("a ! in this minus", t.value("1^".repeat(12) + "1!"), "1");
        is("the three together", t.value("-(1^".repeat(4) + "1" + ")".repeat(4)), "-1");
        is("a 13th of the three", t.run("-(1^".repeat(4) + "-1"), "error at 16");
        is("a 13th of the three behind", t.run("-(1^".repeat(4) + "1^1"), "error at 17");
        is("a - of sum", t.value(twelve + "1-1" + ")".repeat(12)), "0");
        is("a - of minus there", t.run(twelve + "1--1"), "error at 14");
        is("a 12th ( of a call", t.value("(".repeat(11) + "abs(1)" + ")".repeat(11)), "1");
        is("a 13th ( of a call", t.run(twelve + "abs(1)"), "error at 15");
        is("calls alone", t.value("abs(".repeat(12) + "1" + ")".repeat(12)), "1");
        is("13 calls", t.run("abs(".repeat(13) + "1"), "error at 51");
        is("the ( ahead of the =", t.run("f(a)=" + twelve + "a" + ")".repeat(12)), 2);
        is("four WORDs", t.run("f(a,b,c,d)=1"), 2);
        is("five WORDs", t.run("f(a,b,c,d,e)=1"), "error at 10");
        is("the same WORD", t.run("f(a,a)=1"), "error at 4");
        is("the same WORD as the third", t.run("f(a,b,a,c,d)=1"), "error at 6");
        is("the same WORD as the fifth", t.run("f(a,b,c,d,a)=1"), "error at 10");
        is("the WORD ahead of the (", t.run("g(g)=g"), 2);
        is("the first of two", t.run("1 1 $"), "error at 2");

        says("Term 2", "The error position is the index of its first byte, or the length of the text if the text ends too"
            + " early.");
        is("an empty text", t.run(""), "error at 0");
        is("bytes 32 alone", t.run("  "), "error at 2");
        is("bytes 32 and 10 at the end", t.run(" 1+ \n"), "error at 5");
        is("200 bytes 32", t.run(" ".repeat(200)), "error at 200");
        is("200 bytes and a + at the end", t.run("1" + "+1".repeat(99) + "+"), "error at 200");
        is("the 200th byte", t.run(" ".repeat(198) + "1)"), "error at 199");
        is("the first of three", t.run("1 abc"), "error at 2");
    }

    private void forms() {
        says("Term 2", "A text can have three forms: a sum alone; WORD = sum, which tells a name; WORD ( WORDs ) = sum,"
            + " which tells a function with parameters.");
        Talk t = new Talk();
        is("a sum", t.run("1+1") + " " + t.x.names() + t.x.functions(), "0 00");
        is("a name", t.run("x=1+1") + " " + t.x.names() + t.x.functions(), "1 10");
        is("a function", t.run("f(a)=1+a") + " " + t.x.names() + t.x.functions(), "2 11");
        is("of four", t.run("g(a,b,c,d)=1") + " " + t.x.parameters(word("g")), "2 4");

        says("Term 2", "It is of the second or third form if it begins with such a WORD, or with a WORD and WORDs in ( ),"
            + " that have a = behind them.");
        is("no = behind the same WORDs", t.run("q(a,a)"), "refused by 1 at 0");
        is("a = behind them", t.run("q(a,a)="), "error at 4");
        is("no = behind five", t.run("q(x,x,x,x,x)"), "refused by 1 at 0");
        is("a = behind five", t.run("q(a,b,c,d,e)="), "error at 10");
        is("no WORD in ( )", t.run("q(1,1)=1"), "error at 6");
        is("a sum in ( )", t.run("q(a+b)=1"), "error at 6");
        is("a byte that is no token ahead of the =", t.run("q(a,a)$=1"), "error at 6");
        is("a byte that is no token behind the =", t.run("q(a,a)=$"), "error at 4");
        is("a second WORD", t.run("q a=1"), "error at 2");
    }

    private void order() {
        says("Term 3", "A sum is worked from the left to the right, what a sign or a function is applied to ahead of it.");
        Talk t = new Talk();
        is("differences", t.value("10-3-2"), "5");
        is("signs", t.run("1-2*3+4") + " " + t.steps(), "0 3 2 1");
        is("zero first", t.run("1/0+(1/2)!"), "refused by 5 at 1");
        is("whole first", t.run("(1/2)!+1/0"), "refused by 6 at 5");
        is("an exponent", t.run("0.5^(1/0)"), "refused by 5 at 6");
        is("the values of a call", t.run("gcd(1/2,1/0)"), "refused by 5 at 9");
        is("a - ahead of a division", t.run("-1/0") + " " + t.run("-1/2") + " " + t.steps(), "refused by 5 at 2 0 8 4");

        says("Term 3", "Each sign and each function that is applied is a step. There are these:");
        is("a NUMBER", t.run("((0.1[6]))") + " " + t.x.steps(), "0 0");
        is("a name", t.run("x=1") + " " + t.run("x") + " " + t.x.steps(), "1 0 0");
        is("all kinds", t.run("-(1+2)*gcd(3!,4)") + " " + t.steps(), "0 1 8 7 10 3");
        is("a function with two values", t.run("max(1,2)") + " " + t.steps(), "0 20");
    }

    private void signs() {
        Talk t = new Talk();
        says("Term 3", "+ - * and, for two values, / : as usual.");
        is("+", t.value("1/2+1/3"), "5/6");
        is("+ up to 0", t.value("-1/2+1/2"), "0");
        is("-", t.value("1/3-1/2"), "-1/6");
        is("- of 0", t.value("0-1/2"), "-1/2");
        is("*", t.value("-2/3*(3/4)"), "-1/2");
        is("* 0", t.value("-2/3*0"), "0");
        is("/", t.value("1/2/(-3/4)"), "-2/3");
        is("0 /", t.value("0/(-3/4)"), "0");
        is("long carries", t.value("999999999*1000000001"), "999999999999999999");
        is("a long carry away", t.value("10^29-1"), "9".repeat(29));

        says("Term 3", "a % b is a less b times the floor of a / b.");
        is("both above 0", t.value("7%3") + " " + t.value("7/2%(2/3)"), "1 1/6");
        is("below 0 by above", t.value("-7%3"), "2");
        is("above 0 by below", t.value("7%-3"), "-2");
        is("both below 0", t.value("-7%-3"), "-1");
        is("lesser ones", t.value("5%7") + " " + t.value("-5%7") + " " + t.value("5%-7") + " " + t.value("-5%-7"),
            "5 2 -2 -5");
        is("none left", t.value("6%3") + t.value("-6%3") + t.value("6%-3") + t.value("0%-3"), "0000");
        is("a floor that is no value", t.value("10^29%(10^-29)"), "0");
        is("the same", t.value("1/3%(1/3)"), "0");

        says("Term 3", "- of one value.");
        is("above", t.value("-(1/2)"), "-1/2");
        is("0", t.value("-0") + t.x.sign(), "00");
        is("twice", t.value("-(-(1/2))"), "1/2");
    }

    private void powers() {
        Talk t = new Talk();
        says("Term 3", "^ : the exponent must be whole and from -100 to 100;");
        is("100", t.value("1^100") + t.value("0^100") + " " + t.value("(-1)^100"), "10 1");
        is("-100", t.value("1^-100") + t.value("(-1)^-99"), "1-1");
        is("101", t.run("1^101"), "refused by 6 at 1");
        is("-101", t.run("1^-101"), "refused by 6 at 1");
        is("a half", t.run("1^(1/2)"), "refused by 6 at 1");
        is("100 and a half", t.run("1^100.5"), "refused by 6 at 1");
        is("200/2", t.value("1^(200/2)"), "1");
        is("a great one", t.run("1^(10^29)"), "refused by 6 at 1");
        is("a great one below 0", t.run("1^-999999999999"), "refused by 6 at 1");
        for (int digits = 9; digits <= 27; digits += 9) {
            is("10^" + digits + " and more", t.run("1^(10^" + digits + ")") + ", " + t.run("1^(10^" + digits + "+1)"),
                "refused by 6 at 1, refused by 6 at 1");
        }
        is("a small one", t.run("1^(10^-29)"), "refused by 6 at 1");
        is("99", t.value("2^99"), "633825300114114700748351602688");
        is("-99", t.value("2^-99"), "1/633825300114114700748351602688");
        is("of a fraction", t.value("(-2/3)^-3"), "-27/8");

        says("Term 3", "a ^ 0 is 1, also for 0.");
        is("0", t.value("0^0"), "1");
        is("the greatest", t.value(GREATEST + "^0"), "1");
        is("below 0", t.value("(-1/3)^0"), "1");
        is("- of a power", t.value("-1^0"), "-1");

        says("Term 3", "! : of a whole value from 0 on, the product of the whole numbers from 1 to it.");
        is("0", t.value("0!"), "1");
        is("1 and 2", t.value("1!") + t.value("2!"), "12");
        is("28", t.value("28!"), "304888344611713860501504000000");
        is("29", t.run("29!"), "refused by 7 at 2");
        is("-1", t.run("(-1)!"), "refused by 6 at 4");
        is("1/2", t.run("(1/2)!"), "refused by 6 at 5");
        is("-1/2", t.run("(-1/2)!"), "refused by 6 at 6");
        is("great", t.run("(10^29)!"), "refused by 7 at 7");
        is("2 to the power of 32", t.run("4294967296!"), "refused by 7 at 10");
        for (int digits = 9; digits <= 27; digits += 9) {
            String sum = "(10^" + digits + "+3)!";
            is("10^" + digits + " and 3", t.run(sum), "refused by 7 at " + (sum.length() - 1));
        }
    }

    private void knownFunctions() {
        Talk t = new Talk();
        says("Term 3", "gcd(a,b) and lcm(a,b), of whole values, are 0 or above; gcd(0,0) is 0, lcm is 0 if one is 0.");
        is("gcd of 0", t.value("gcd(0,0)") + t.value("gcd(0,-5)") + t.value("gcd(-5,0)"), "055");
        is("gcd below 0", t.value("gcd(-12,18)") + t.value("gcd(12,-18)") + t.value("gcd(-12,-18)"), "666");
        is("lcm of 0", t.value("lcm(0,0)") + t.value("lcm(0,5)") + t.value("lcm(-5,0)"), "000");
        is("lcm below 0", t.value("lcm(-4,6)") + " " + t.value("lcm(4,-6)") + " " + t.value("lcm(-4,-6)"), "12 12 12");
        is("gcd of no whole ones", t.run("gcd(1/2,1)") + ", " + t.run("gcd(1,1/2)"),
            "refused by 6 at 0, refused by 6 at 0");
        is("lcm of no whole ones", t.run("lcm(0,1/2)") + ", " + t.run("lcm(1/2,0)"),
            "refused by 6 at 0, refused by 6 at 0");
        is("great ones", t.value("gcd(" + GREATEST + ",10^29)") + " " + t.value("lcm(" + GREATEST + "," + GREATEST + ")"),
            "1 " + NINES);
        is("a great lcm", t.run("lcm(" + GREATEST + ",2)"), "refused by 7 at 0");

        says("Term 3", "abs(a).");
        is("all signs", t.value("abs(-1/2)") + " " + t.value("abs(0)") + " " + t.value("abs(3/2)"), "1/2 0 3/2");

        says("Term 3", "med(a,b): the sum of both numerators by the sum of both denominators.");
        is("one", t.value("med(1,3/2)"), "4/3");
        is("lowest terms", t.value("med(1/2,1/2)") + " " + t.value("med(0,0)"), "1/2 0");
        is("0", t.value("med(-1/3,1/3)") + t.x.digits(true) + t.x.digit(true, 0), "011");
        is("the greatest in lowest terms", t.value("med(" + GREATEST + "," + GREATEST + ")"), NINES);
        is("10^30 in lowest terms", t.value("med(" + GREATEST + ",1)"), "5" + "0".repeat(29));
        is("above it", t.run("med(" + GREATEST + ",2)"), "refused by 7 at 0");

        says("Term 3", "num(a), den(a): the numerator, the denominator.");
        is("below 0", t.value("num(-6/4)") + " " + t.value("den(-6/4)"), "-3 2");
        is("0", t.value("num(0)") + t.value("den(0)"), "01");
        is("whole", t.value("num(7)") + t.value("den(7)"), "71");

        says("Term 3", "min(a,b), max(a,b).");
        is("min", t.value("min(1/3,2/7)") + " " + t.value("min(2/7,1/3)") + " " + t.value("min(-1,0)"), "2/7 2/7 -1");
        is("max", t.value("max(1/3,2/7)") + " " + t.value("max(2/7,1/3)") + " " + t.value("max(-1,0)"), "1/3 1/3 0");
        is("alike", t.value("min(1/2,2/4)") + " " + t.value("max(1/2,2/4)"), "1/2 1/2");
        is("great ones", t.value("max(" + GREATEST + "/7,1/" + GREATEST + ")").length(), 30);

        says("Term 3", "These eleven words and nothing else are known as functions at first, and cannot be told.");
        for (String known : KNOWN.split(" ")) {
            Talk each = new Talk();
            String values = "gcd lcm med min max".contains(known) ? "(4,6)" : "(4)";
            is(known + " is known", each.run(known + values) + " " + each.x.steps(), "0 1");
            is(known + " with other values", each.run(known + "(4,4,4)"), "refused by 1 at 0");
            is(known + " is no name", each.run(known), "refused by 1 at 0");
            is(known + " is no name to tell", each.run(known + "=1"), "refused by 2 at 0");
            is(known + " is no function to tell", each.run(known + "(a)=1"), "refused by 2 at 0");
            is(known + " was not told", each.x.functions() + each.x.names(), 0);
        }
        for (char c = 'a'; c <= 'z'; c++) {
            is(c + " is not known", t.run(c + "(1)") + ", " + t.run(c + "(1,2)"),
                "refused by 1 at 0, refused by 1 at 0");
        }
        is("a longer word is another one", t.run("maxi(1,2)") + ", " + t.run("ma(1,2)"),
            "refused by 1 at 0, refused by 1 at 0");
    }

    private void roundedValues() {
        Talk t = new Talk();
        says("Term 3", "floor(a), ceil(a): the greatest whole number not above, the least not below.");
        is("floor", t.value("floor(7/2)") + " " + t.value("floor(-7/2)") + " " + t.value("floor(-1/3)") + " "
            + t.value("floor(1/3)"), "3 -4 -1 0");
        is("floor of whole ones", t.value("floor(4)") + " " + t.value("floor(-4)") + " " + t.value("floor(0)"), "4 -4 0");
        is("ceil", t.value("ceil(7/2)") + " " + t.value("ceil(-7/2)") + " " + t.value("ceil(-1/3)") + " "
            + t.value("ceil(1/3)"), "4 -3 0 1");
        is("ceil of whole ones", t.value("ceil(4)") + " " + t.value("ceil(-4)") + " " + t.value("ceil(0)"), "4 -4 0");
        is("great ones", t.value("floor(-" + GREATEST + "/2)") + " " + t.value("ceil(" + GREATEST + "/2)"),
            "-5" + "0".repeat(29) + " 5" + "0".repeat(29));
        is("small ones", t.value("floor(-1/" + GREATEST + ")") + " " + t.value("ceil(1/" + GREATEST + ")"), "-1 1");

        says("Term 3", "near(a): the nearest whole number, of two the even one.");
        is("halves", t.value("near(1/2)") + t.value("near(3/2)") + t.value("near(5/2)") + t.value("near(7/2)"), "0224");
        is("halves below 0", t.value("near(-1/2)") + t.value("near(-3/2)") + t.value("near(-5/2)"), "0-2-2");
        is("no halves", t.value("near(49/100)") + t.value("near(51/100)") + t.value("near(-49/100)")
            + t.value("near(-51/100)"), "010-1");
        is("whole ones", t.value("near(3)") + t.value("near(-3)") + t.value("near(0)"), "3-30");
        is("a great half", t.value("near(" + GREATEST + "/2)"), "5" + "0".repeat(29));
        is("a half with a carry", t.value("near(999999999.5)") + " " + t.value("near(1000000000.5)"),
            "1000000000 1000000000");
    }

    private void toldFunctions() {
        Talk t = new Talk();
        says("Term 3", "A function that is told is worked by its sum, in which its parameters are the values that it is"
            + " called with; this is one step more, behind those of its sum.");
        t.run("f(a,b,c,d)=a-b*c/d");
        is("four values", t.value("f(10,2,3,4)") + " " + t.steps(), "17/2 3 4 2 9");
        is("its values in their order", t.value("f(f(1,1,1,1),1,1,2)"), "-1/2");
        t.run("g(a)=a");
        is("no step but its own", t.value("g(5)") + " " + t.steps(), "5 9");
        t.run("h(a)=7");
        is("no parameter in it", t.value("h(1/3)") + " " + t.steps(), "7 4 9");
        is("a value that is not needed is worked", t.run("h(1/0)"), "refused by 5 at 3");

        says("Term 3", "A WORD in its sum that is one of its parameters, and no call, is this parameter.");
        t.run("x=100");
        is("ahead of a name", t.run("k(x)=x+1") + t.value("k(5)") + " " + t.value("x"), "26 100");
        is("with the word of a known function", t.run("k(abs)=abs(abs)") + t.value("k(-3)"), "23");
        is("with the word of the function", t.run("k(k)=k*2") + t.value("k(4)"), "28");
        is("with the word of another function", t.run("k(g)=g(g)+g") + t.value("k(4)"), "28");
        is("not if it is called", t.run("m(a)=a(1)"), "refused by 1 at 5");
        is("nor in another function", t.run("m(a)=x+k(a)") + t.value("m(1)"), "2102");
    }

    private void unknown() {
        passesOver("Term 3", "A line is refused by a cause, at a place of the text:");
        says("Term 3", "1 UNKNOWN (names and functions as they are ahead of the line): a WORD that is no name (nor"
            + " parameter), or a call of what is no function, or with another number of values; at the first such"
            + " WORD.");
        Talk t = new Talk();
        is("no name", t.run(" 1+x"), "refused by 1 at 3");
        is("the name that is told", t.run("x=x"), "refused by 1 at 2");
        is("the function that is told", t.run("f(a)=f(a)"), "refused by 1 at 5");
        is("no parameter", t.run("f(a)=a+b"), "refused by 1 at 7");
        is("no function", t.run("2*q(1)"), "refused by 1 at 2");
        is("the first in the text", t.run("q(y)+z") + ", " + t.run("1+y+q(1)"), "refused by 1 at 0, refused by 1 at 2");
        is("a known function that is not called", t.run("abs"), "refused by 1 at 0");
        is("a name that is called", t.run("x=1") + " " + t.run("x(1)"), "1 refused by 1 at 0");
        is("a function that is not called", t.run("f(a,b,c,d)=a") + " " + t.run("f"), "2 refused by 1 at 0");
        is("three values for four", t.run("f(1,2,3)"), "refused by 1 at 0");
        is("five values for four", t.run("f(1,2,3,4,5)"), "refused by 1 at 0");
        is("four values", t.value("f(1,2,3,4)"), "1");
        is("the number of parameters ahead of the line", t.run("f(a)=f(a)"), "refused by 1 at 5");
        is("a parameter of another line", t.run("g(b)=b") + " " + t.run("b"), "2 refused by 1 at 0");
    }

    private void taken() {
        says("Term 3", "2 TAKEN: a name or function that is told has one of the eleven words, or a function that is told"
            + " has another number of parameters than the one with its word that is there, while some name or other"
            + " function uses this; at this WORD.");
        Talk t = new Talk();
        for (String known : KNOWN.split(" ")) {
            is(known + " for a name", t.run("  " + known + "=1"), "refused by 2 at 2");
            is(known + " for a function", t.run("\n" + known + "(a,b)=1"), "refused by 2 at 1");
        }
        is("as a parameter", t.run("p(gcd,lcm,min,max)=gcd+lcm+min+max"), 2);
        is("nobody uses it", t.run("f(a)=a") + " " + t.run("f(a,b)=a"), "2 2");
        is("a name uses it", t.run("x=f(1,2)") + " " + t.run(" f(a)=a"), "1 refused by 2 at 1");
        is("with the same number", t.run("f(a,b)=a+b") + " " + t.x.takeName(word("x")) + t.fraction(), "2 13");
        t.run("y=x");
        t.run("x=1");
        is("no more", t.run("f(a)=a"), 2);
        is("a function uses it", t.run("g(a)=f(a)") + " " + t.run("f(a,b)=a"), "2 refused by 2 at 0");
        is("a name by a function", t.run("x=g(1)") + " " + t.run("f(a,b)=a"), "1 refused by 2 at 0");
        is("the function between them, and one more", t.run("g(a,b)=a") + " " + t.run("h(a)=f(a)"),
            "refused by 2 at 0 2");
        is("what a function of its own word uses is no hindrance", t.run("h(a,b)=h(a)"), "refused by 4 at 0");

        says("Term 3", "(A name and a function may have the same word.)");
        is("both", t.run("f=5") + t.value("f(f)") + " " + t.x.parameters(word("f")), "15 1");
        is("the name is not taken by what uses the function", t.run("f=6") + t.value("f"), "16");
    }

    private void room() {
        says("Term 3", "3 ROOM: there are 20 names, or 10 functions, and one more is told; at its WORD.");
        Talk t = new Talk();
        for (char c = 'a'; c <= 's'; c++) {
            t.run(c + "=1");
        }
        is("the 20th name", t.x.names() + " " + t.run("t=1"), "19 1");
        is("the 21st name", t.run("  u=1"), "refused by 3 at 2");
        is("one that is there", t.run("t=2"), 1);
        for (char c = 'a'; c <= 'i'; c++) {
            t.run(c + "(x)=x");
        }
        is("the 10th function", t.x.functions() + " " + t.run("j(x)=x"), "9 2");
        is("the 11th function", t.run("\nk(x)=x"), "refused by 3 at 1");
        is("one that is there", t.run("j(x,y)=x"), 2);
        is("a sum", t.run("j(a,t)"), 0);
        is("counted", t.x.names() + " " + t.x.functions(), "20 10");
        t.x.drop(word("t"), false);
        is("a dropped one leaves room", t.run("u=1") + " " + t.run("v=1"), "1 refused by 3 at 0");
        t.x.drop(word("j"), true);
        is("a dropped function leaves room", t.run("k(x)=x") + " " + t.run("m(x)=x"), "2 refused by 3 at 0");
    }

    private void ring() {
        says("Term 3", "4 RING: a name or function that is told would use itself, by names and functions that it uses; at"
            + " its WORD.");
        Talk t = new Talk();
        t.run("x=1");
        is("a name directly", t.run(" x=x+1"), "refused by 4 at 1");
        t.run("f(a)=a+x");
        is("a function directly", t.run("f(a)=f(a-1)"), "refused by 4 at 0");
        is("a name by a function", t.run("x=f(1)"), "refused by 4 at 0");
        t.run("y=f(1)");
        is("a name by a name and a function", t.run("x=y"), "refused by 4 at 0");
        is("a function by a name", t.run("f(a)=y"), "refused by 4 at 0");
        is("a parameter is no name", t.run("f(y)=y+x"), 2);
        is("a name of the word of a function", t.run("f=f(1)") + " " + t.value("f"), "1 2");
        is("what only stood there once", t.run("y=2") + " " + t.run("x=y"), "1 1");
    }

    private void zero() {
        says("Term 3", "5 ZERO: a division or % by 0, 0 ^ an exponent below 0; at the sign.");
        Talk t = new Talk();
        is("/", t.run("1+2/(1-1)"), "refused by 5 at 3");
        is("0 / 0", t.run("0/0"), "refused by 5 at 1");
        is("%", t.run(" 1%0"), "refused by 5 at 2");
        is("0 % 0", t.run("0%0"), "refused by 5 at 1");
        is("0 ^ -1", t.run("0^-1"), "refused by 5 at 1");
        is("0 ^ -100", t.run("0^-100"), "refused by 5 at 1");
        is("0 ^ 0 and 0 ^ 1", t.value("0^0") + t.value("0^1"), "10");
    }

    private void whole() {
        says("Term 3", "6 WHOLE: a value that must be whole, or from 0 on, or an exponent from -100 to 100, is not; at the"
            + " sign, or at the WORD of the function.");
        Talk t = new Talk();
        is("!", t.run("2*(1/2)!"), "refused by 6 at 7");
        is("! below 0", t.run("(-3)!"), "refused by 6 at 4");
        is("^", t.run("2^(1/2)"), "refused by 6 at 1");
        is("^ 101", t.run(" 2^101"), "refused by 6 at 2");
        is("^ -101", t.run("2^-101"), "refused by 6 at 1");
        is("gcd", t.run("1+gcd(1/2,3)"), "refused by 6 at 2");
        is("lcm", t.run("1+ lcm(3,1/2)"), "refused by 6 at 3");
    }

    private void great() {
        says("Term 3", "7 GREAT: a result that is no value (section 1); at the sign, or the WORD of the function.");
        Talk t = new Talk();
        is("+", t.run(GREATEST + "+1"), "refused by 7 at 45");
        is("-", t.run("-" + GREATEST + "-1"), "refused by 7 at 46");
        is("*", t.run("10^15*(10^15)"), "refused by 7 at 5");
        is("* just not", t.value("10^15*(10^14)"), "1" + "0".repeat(29));
        is("/", t.run("10^29/(10^-1)"), "refused by 7 at 5");
        is("% just not", t.value("10^-29%(1/3)"), "1/1" + "0".repeat(29));
        is("% of great denominators", t.run("1/17%(10^-29)"), "refused by 7 at 4");
        is("^", t.run("10^30"), "refused by 7 at 2");
        is("^ below 0", t.run("10^-30"), "refused by 7 at 2");
        is("^ of a fraction", t.run("(1/2)^100"), "refused by 7 at 5");
        is("^ of a great one", t.run(GREATEST + "^100"), "refused by 7 at 45");
        is("!", t.run(" 29!"), "refused by 7 at 3");
        is("lcm", t.run("1+lcm(" + GREATEST + ",2)"), "refused by 7 at 2");
        is("med", t.run("1+med(" + GREATEST + ",2)"), "refused by 7 at 2");
        is("what would fall again", t.run("10^29*10/10"), "refused by 7 at 5");
    }

    private void longLines() {
        says("Term 3", "8 LONG: a 201st step; at its sign or WORD.");
        Talk t = new Talk();
        t.run(LONG_F);
        is("200", t.value(FOUR_F + "+1-1+1-1") + " " + t.x.steps(), "193 200");
        is("201", t.run(FOUR_F + "+1-1+1-1 +1"), "refused by 8 at 22");
        is("a known function", t.run(FOUR_F + "+1-1+1-1+abs(1)"), "refused by 8 at 22");
        is("a - of one value", t.run("-(" + FOUR_F + "+1-1+1-1)"), "refused by 8 at 0");
        t.run("g(x)=x");
        is("a told function is the 199th", t.value(FOUR_F + "+1-1+g(1)") + " " + t.x.steps(), "194 200");
        is("a told function is the 201st", t.run(FOUR_F + "+1-1+1-1+g(1)"), "refused by 8 at 22");
        t.run("h(x)=" + FOUR_F + "+1-1+1+x*0");
        is("a step in a told function is the 201st", t.run("1+h(1)"), "refused by 8 at 2");
        t.run("h(x)=" + FOUR_F + "+1-1+1+x");
        is("a told function itself is the 201st", t.run("1+h(1)"), "refused by 8 at 2");
        t.run("h(x)=" + FOUR_F + "+1-1+x");
        is("a told function itself is the 200th", t.run("h(1)") + " " + t.x.steps(), "0 200");
        is("one behind it", t.run("h(1)+1"), "refused by 8 at 4");
    }

    private void behind() {
        says("Term 3", "9 BEHIND: a name that uses what is told cannot be worked anew (section 4); at the place 0.");
        Talk t = new Talk();
        t.run("x=1");
        t.run("y=1/x");
        is("a name", t.run("  x = 0"), "refused by 9 at 0");
        t.run("f(a)=a");
        t.run("z=1/f(1)");
        is("a function", t.run("\n\nf(a)=0"), "refused by 9 at 0");
        is("the name that failed", t.x.failed(), word("z"));
        is("the line's own sum is met first", t.run(" x=1/0"), "refused by 5 at 4");
    }

    private void orderOfCauses() {
        says("Term 3", "1 to 4 are asked in this order ahead of all steps; the others as they are met, for a step 8 ahead"
            + " of 6, then 5, then 7.");
        Talk t = new Talk();
        is("1 ahead of 2", t.run("gcd=q"), "refused by 1 at 4");
        t.run("k(a)=a");
        t.run("x=k(1)");
        t.run("y=x");
        is("1 ahead of 4", t.run("x=y+q"), "refused by 1 at 4");
        is("2 ahead of 4", t.run("k(a,b)=k(a)"), "refused by 2 at 0");
        is("1 ahead of 5", t.run("1/0+q"), "refused by 1 at 4");
        is("2 ahead of 5", t.run("gcd=1/0"), "refused by 2 at 0");
        is("4 ahead of 5", t.run("x=1/0+y"), "refused by 4 at 0");
        Talk full = new Talk();
        for (char c = 'a'; c <= 't'; c++) {
            full.run(c + "=1");
        }
        is("1 ahead of 3", full.run("u=w"), "refused by 1 at 2");
        is("2 ahead of 3", full.run("gcd=1"), "refused by 2 at 0");
        is("3 ahead of 5", full.run("u=1/0"), "refused by 3 at 0");
        t.run(LONG_F);
        String all = FOUR_F + "+1-1+1-1";
        is("8 ahead of 6 for ^", t.run(all + "+1^0.5"), "refused by 8 at 23");
        is("8 ahead of 6 for !", t.run(all + "+0.5!"), "refused by 8 at 25");
        is("8 ahead of 6 for gcd", t.run(all + "+gcd(1,0.5)"), "refused by 8 at 22");
        is("8 ahead of 5", t.run(all + "+1/0") + ", " + t.run(all + "+1%0"), "refused by 8 at 23, refused by 8 at 23");
        is("8 ahead of 7", t.run(all + "+29!"), "refused by 8 at 24");
        String less = FOUR_F + "+1-1+1";
        is("6 for the 200th", t.run(less + "-0.5!"), "refused by 6 at 23");
        is("5 for the 200th", t.run(less + "-1/0"), "refused by 5 at 21");
        is("7 for the 200th", t.run(less + "-29!"), "refused by 7 at 22");
        is("6 ahead of 5", t.run("0^-101") + ", " + t.run("0^-0.5"), "refused by 6 at 1, refused by 6 at 1");
        is("6 ahead of 7", t.run("(10^29)^101"), "refused by 6 at 7");
        is("as they are met", t.run("29!+1/0") + ", " + t.run("1/0+29!"), "refused by 7 at 2, refused by 5 at 1");
    }

    private void placesInFunctions() {
        says("Term 3", "Of what is met in the sum of a function that was told the place is that of the outermost call in"
            + " the line whose function's sum was being worked then (not of one whose values were still being"
            + " worked).");
        Talk t = new Talk();
        t.run("f(a)=1/a");
        t.run("g(a)=f(a)+f(a-1)");
        t.run("k(a)=gcd(a,1/2)");
        is("in its own sum", t.run("1+f(0)"), "refused by 5 at 2");
        is("in another function's sum", t.run("2*g(1)"), "refused by 5 at 2");
        is("in a value", t.run("g(f(0))"), "refused by 5 at 2");
        is("in a second value", t.run("g(2)+g(f(1)+f(0))"), "refused by 5 at 12");
        is("behind a value", t.run("f(f(2)-1/2)"), "refused by 5 at 0");
        is("a sign in a value", t.run("f(1/0)"), "refused by 5 at 3");
        is("behind another call", t.run("f(1)+f(0)"), "refused by 5 at 5");
        is("a sign behind a call", t.run("f(1)/0"), "refused by 5 at 4");
        is("in a known function's value", t.run("abs(f(0))"), "refused by 5 at 4");
        is("6 in a function", t.run("1+ k(1)"), "refused by 6 at 3");
        t.run("m(a)=29!*a");
        is("7 in a function", t.run("-(m(1))"), "refused by 7 at 2");
        t.run(LONG_F);
        t.run("n(a)=" + FOUR_F + "+f(a)");
        is("8 in a function", t.run("1*n(1)"), "refused by 8 at 2");
    }
}
