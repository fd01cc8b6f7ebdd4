/** EXPR at each boundary: which TOKENS can stand where, which FAULT comes of two, ints that wrap, tests, VALUES. */
public final class ExprEdgesTest {
    private static final Check CHECK = new Check();
    private static final String[] WORDS = {"corners", "person", "miser", "clock", "asks", "says", "or", "and", "not", "left", "shown",
        "mean", "company", "step", "theirs", "given", "x", "lefts", "minutes"};
    private static final String VALUES = " left shown mean company step ";
    private static final String VALUES_OF_SAYS = VALUES + "theirs given ";

    // ==== TOKENS

    /** Ahead of a PART, where a 'not' can stand, too, or where it can't. */
    private static void words(String rule, String ahead, boolean mayNot, String behind) {
        String values = rule.equals("says ") ? VALUES_OF_SAYS : VALUES;
        for (String word : WORDS) {
            if (values.contains(" " + word + " ")) {
                CHECK.fine(rule + ahead + word + behind);
            } else if (word.equals("not") && mayNot) {
                CHECK.fine(rule + ahead + "not 1" + behind);
                CHECK.fault(1, rule + ahead + "not^" + behind);
            } else {
                CHECK.fault(3, rule + ahead + "^" + word + " 1" + behind);
            }
        }
        for (String sign : new String[] {";", ")", "+", "-", "*", "/", "<", "=", ",", "A", "-1"}) {
            CHECK.fault(1, rule + ahead + "^" + sign + behind);
        }
        CHECK.fine(rule + ahead + "(1)" + behind);
        CHECK.fault(1, rule + ahead + "(^)" + behind);
        CHECK.fault(1, rule + ahead + "^");
    }

    private static void aheadOfAPart() {
        for (String rule : new String[] {"asks ", "says "}) {
            for (String ahead : new String[] {"", "1 and ", "1 or ", "not ", "not not ", "1<2 and ", "left=2 or "}) {
                words(rule, ahead, true, ";");
            }
            words(rule, "(", true, ");");
            words(rule, "2*(", true, ")+1;");
            for (String ahead : new String[] {"1+", "1-", "1*", "1/", "1<", "1=", "not 1<", "1+2*", "(1)/", "1<2+"}) {
                words(rule, ahead, false, ";");
            }
        }
    }

    /** Behind a PART that is all. */
    private static void behindAPart() {
        for (String part : new String[] {"1", "left", "(1)", "1+2", "2*mean", "not 1"}) {
            String head = "says " + part + " ";
            for (String word : WORDS) {
                if (word.equals("and") || word.equals("or")) {
                    CHECK.fine(head + word + " 1;");
                } else {
                    CHECK.fault(1, head + "^" + word + " 1;");
                }
            }
            for (String sign : new String[] {"+", "-", "*", "/", "<", "="}) {
                CHECK.fine(head + sign + "1;");
                CHECK.fault(1, head + sign + "^;");
                CHECK.fault(1, head + sign + "^" + sign + "1;");
            }
            for (String none : new String[] {"1", "0", "9999", "10000", "123456", "(1)", ")", "&", ">", "."}) {
                CHECK.fault(1, head + "^" + none + ";");
            }
            CHECK.fault(1, head + ";^;");
            CHECK.fault(1, head + "^");
        }
    }

    private static void testsAreNotSideBySide() {
        for (String sign : new String[] {"<", "="}) {
            CHECK.fault(1, "asks 1<2^" + sign + "3;");
            CHECK.fault(1, "asks 1=2^" + sign + "3;");
            CHECK.fault(1, "asks not 1=2+3*4^" + sign + "3;");
            CHECK.fault(1, "asks (1<2^" + sign + "3);");
            CHECK.fault(1, "asks 0 or 1<2^" + sign + "3;");
            CHECK.fine("asks (1<2)" + sign + "3;");
            CHECK.fine("asks 1" + sign + "(2<3);");
            CHECK.fine("asks 1<2 and 2" + sign + "3 or 3" + sign + "4;");
        }
    }

    private static void withinSixOthers() {
        for (String rule : new String[] {"asks ", "says "}) {
            for (int n = 0; n <= 5; n++) {
                CHECK.fine(rule + "(".repeat(n) + "not 1 and left" + ")".repeat(n) + ";");
                CHECK.fine(rule + "2+(".repeat(n) + "1" + ")*3".repeat(n) + ";");
                CHECK.fault(1, rule + "(".repeat(n) + "1" + ")".repeat(n) + "^)");
                CHECK.fault(1, rule + "(".repeat(n + 1) + "^");
                CHECK.fault(1, rule + "(".repeat(n + 1) + "^);");
            }
            CHECK.fine(rule + "(((((1)))))+(((((2)))))*(((((3)))));");
            for (String head : new String[] {"((((((", "1+(2*(3 or(not(4<(5=(", "(1)+((((((", "(((((1+("}) {
                for (String first : new String[] {"1", "9999", "10000", "123456", "left", "not", "and", "theirs", "given", "x", "corners", "(",
                    "((", "(("}) {
                    CHECK.fault(2, rule + head + "^" + first);
                }
                for (String first : new String[] {")", "+1", "-1", "*", "<", "=", "/", ";", ",", "A", ""}) {
                    CHECK.fault(1, rule + head + "^" + first);
                }
            }
            CHECK.fault(2, rule + "(((((1)))))+((((((^1))))));");
        }
    }

    private static void sevenNots() {
        for (String rule : new String[] {"asks ", "says "}) {
            for (String ahead : new String[] {"", "1 and ", "1 or not 1 and ", "(", "((((("}) {
                for (int n = 0; n <= 6; n++) {
                    String behind = ")".repeat((int) ahead.chars().filter(c -> c == '(').count()) + ";";
                    CHECK.fine(rule + ahead + "not ".repeat(n) + "1" + behind);
                    CHECK.fine(rule + ahead + "not ".repeat(n) + "1<2" + behind);
                    CHECK.fault(1, rule + ahead + "not ".repeat(n) + "^;");
                    CHECK.fault(3, rule + ahead + "not ".repeat(n) + "^nots;");
                }
                CHECK.fault(2, rule + ahead + "not ".repeat(6) + "^not 1;");
                CHECK.fault(2, rule + ahead + "not ".repeat(6) + "\n\n^not");
                CHECK.fault(2, rule + ahead + "not ".repeat(6) + "^not not not");
            }
            CHECK.fine(rule + "not ".repeat(6) + "(" + "not ".repeat(6) + "1);");
            CHECK.fine(rule + "not ".repeat(6) + "1 and " + "not ".repeat(6) + "1 or " + "not ".repeat(6) + "1;");
            CHECK.fault(2, rule + "not ".repeat(6) + "(" + "not ".repeat(6) + "^not 1);");
        }
    }

    /** Of two FAULTS of one TOKEN the least. */
    private static void theLeastFault() {
        CHECK.fault(1, "corners ^corners 3;");
        CHECK.fault(1, "corners ^clock 3;");
        CHECK.fault(1, "person 1 2 3 0 ^corners 3;");
        CHECK.fault(1, "person 1 2 3 0;clock ^corners;");
        CHECK.fault(1, "clock ^clock 1;");
        CHECK.fault(1, "asks 1 ^asks 1;");
        CHECK.fault(1, "asks 1 ^12345;");
        CHECK.fault(1, "^12345;");
        CHECK.fault(1, "asks 1 ^not not not not not not not 1;");
        CHECK.fault(1, "asks (((((1 ^1");
        CHECK.fault(2, "person 1 2 3 0 0 0 0 0 0 ^9;");
        CHECK.fault(2, "person 1 2 3 ^99999;");
        CHECK.fault(2, "asks ((((((^corners");
        CHECK.fault(3, "asks ^asks 1;");
        CHECK.fault(3, "asks 1;says ^asks 1;");
        CHECK.fault(3, "person 1 2 3 0;asks ^corners 3;");
        CHECK.fault(3, "corners 3;clock 1;says 1 + ^clock 1;");
        CHECK.fault(4, "person 1 2 3 0;^corners 3;");
        CHECK.fault(4, "corners 4;miser 1 2 3 0;^corners 9;");
        CHECK.fault(4, "corners 4;miser 1 2 3 0;^corners x");
        CHECK.fault(5, "corners 4;^corners x");
        CHECK.fault(5, "corners 4;clock 1;asks 1;says 1;^corners 4;");
        CHECK.fault(5, "clock 1;person 1 2 3 0;^clock 1;");
        CHECK.fault(5, "asks 1;says 1;^asks x");
        CHECK.fault(5, "says 1;asks 1;^says");
        CHECK.fine("clock 1;asks 1;says 1;corners 3;");
        CHECK.fine("says 1;person 1 2 3 0;asks 1;person 1 2 3 0;clock 1;");
        // The first along the text, whatever comes behind it.
        CHECK.fault(3, "person 1 2 3 ^3 99999;corners;x");
        CHECK.fault(2, "clock ^60;corners 3;corners 3;x");
        CHECK.fault(5, "corners 3;^corners 7;x");
    }

    // ==== What an EXPR gives

    /** An EXPR that gives an int, also one that wraps. */
    private static String exprOf(int n) {
        return "((" + (n >>> 24) + "*4096+" + (n >>> 12 & 4095) + ")*4096+" + (n & 4095) + ")";
    }

    /** Of the first one, who has 10 LEFT, shows 3, is 4 mean, and asks one who has 500. */
    private static void gives(String expr, int want) {
        String text = "person 10 33 4 0;person 500 30 0 0;asks 10=left and (" + expr + ")=" + exprOf(want) + ";";
        CHECK.due(expr + " is " + want, CHECK.quay(text).asked(0, 1), 1);
    }

    private static void ints() {
        int max = Integer.MAX_VALUE;
        int min = Integer.MIN_VALUE;
        gives(exprOf(max), max);
        gives(exprOf(max) + "+1", min);
        gives(exprOf(min) + "-1", max);
        gives("0-" + exprOf(min), min);
        gives(exprOf(min) + "/(0-1)", min);
        gives(exprOf(min) + "*(0-1)", min);
        gives(exprOf(min) + "/1", min);
        gives(exprOf(max) + "/(0-1)", -max);
        gives("0<" + exprOf(max), 1);
        gives("0<" + exprOf(min), 0);
        gives(exprOf(min) + "<" + exprOf(max), 1);
        gives("9999*9999", 99980001);
        gives("9999*9999*21", 2099580021);
        gives("9999*9999*22", 9999 * 9999 * 22);
        gives("9999*9999*9999", 9999 * 9999 * 9999);
        gives("8192*8192*32", min);
        gives("8192*8192*64", 0);
    }

    private static void cutDown() {
        gives("6/2", 3);
        gives("7/2", 3);
        gives("1/2", 0);
        gives("(0-1)/2", 0);
        gives("(0-7)/2", -3);
        gives("7/(0-2)", -3);
        gives("(0-7)/(0-2)", 3);
        gives("0/5", 0);
        gives("5/0", 0);
        gives("0/0", 0);
        gives("(0-5)/0", 0);
        gives(exprOf(Integer.MIN_VALUE) + "/0", 0);
        gives("5/0*7+1", 1);
        gives("9/(4-4)+2", 2);
        gives("9999/9998", 1);
        gives("9998/9999", 0);
    }

    private static void fromTheLeft() {
        gives("10-4-3", 3);
        gives("10-(4-3)", 9);
        gives("40/5/2", 4);
        gives("40/(5/2)", 20);
        gives("7/2*2", 6);
        gives("7*2/2", 7);
        gives("2+3*4", 14);
        gives("2*3+4", 10);
        gives("(2+3)*4", 20);
        gives("20-6/2", 17);
        gives("1+2-3+4-5", -1);
        gives("1<2+3", 1);
        gives("1+2<3", 0);
        gives("2*2=4", 1);
        gives("4=2*2", 1);
        gives("not 1<2", 0);
        gives("not 2<1", 1);
        gives("(not 1)<2", 1);
        gives("not 0+1", 0);
        gives("(not 0)+1", 2);
        gives("not 0=0", 0);
        gives("not 0 and 0", 0);
        gives("not (0 and 0)", 1);
        gives("not 1 or 1", 1);
        gives("1 or 1 and 0", 1);
        gives("(1 or 1) and 0", 0);
        gives("0 and 0 or 1", 1);
        gives("0 and (0 or 1)", 0);
        gives("1 and not 0 and 1", 1);
    }

    /** As many PARTS wait for one another as can. */
    private static void mostParts() {
        String one = "0 or 1 and 1=9-4*2";
        String other = "0 or 1 and 3<4-1*(";
        gives(one, 1);
        for (int n = 1; n <= 4; n++) {
            gives(other.repeat(n) + one + ")".repeat(n), n % 2 == 0 ? 1 : 0);
            gives("0 or 1-1 or 0 and 1<" + other.repeat(n) + one + ")".repeat(n) + "*2", n % 2 == 0 ? 1 : 0);
        }
        gives("1-1+1*1 or 0 and not not not not not not 1<1", 1);
        // The outermost EXPR, too.
        String last = other.repeat(5) + one + ")".repeat(5);
        CHECK.due("says " + last, CHECK.quay("person 10 30 1 0;person 500 30 0 0;asks mean;says " + last + ";").robbed(1, 0, 1), 0);
        CHECK.due("says 7*" + last, CHECK.quay("person 10 30 1 0;person 500 30 0 0;asks mean;says 0 or 5<7*(" + other.repeat(4) + one
            + ")".repeat(5) + ";").robbed(1, 0, 1), 1);
    }

    private static void testsAreOneOrZero() {
        int[] some = {0, 1, 2, 4, 5, -1, -2, Integer.MIN_VALUE};
        for (int a : some) {
            String left = exprOf(a);
            gives(left, a);
            gives("not " + left, a == 0 ? 1 : 0);
            gives("not not " + left, a == 0 ? 0 : 1);
            gives("not not not not not not " + left, a == 0 ? 0 : 1);
            for (int b : some) {
                String right = exprOf(b);
                gives(left + "and" + right, a != 0 && b != 0 ? 1 : 0);
                gives(left + "or" + right, a != 0 || b != 0 ? 1 : 0);
                gives(left + "<" + right, a < b ? 1 : 0);
                gives(left + "=" + right, a == b ? 1 : 0);
                gives(left + "+" + right, a + b);
                gives(left + "-" + right, a - b);
                gives(left + "*" + right, a * b);
                gives(left + "/" + right, b == 0 ? 0 : a / b);
            }
        }
    }

    // ==== VALUES

    private static int said(GivenMinutes x) {
        return x.robbed(1, 0, 1);
    }

    /** Whoever is mean asks; the second one has 500 LEFT, shows 7, is 3 mean. */
    private static GivenMinutes saying(String expr) {
        return CHECK.quay("corners 2;person 20 30 1 0;person 500 37 0 0;person 0 0 0 0;person 50 0 0 0;person 50 0 0 1;asks mean;says "
            + expr + ";");
    }

    private static void valuesOfOne() {
        gives("left", 10);
        gives("shown", 3);
        gives("mean", 4);
        gives("company", 1);
        gives("step", 0);
        CHECK.due("left of who says", said(saying("left-450")), 50);
        CHECK.due("shown of who says", said(saying("shown")), 7);
        CHECK.due("mean of who says", said(saying("mean+5")), 5);
        CHECK.due("theirs", said(saying("theirs")), 20);
        CHECK.due("given by nobody", said(saying("given+5")), 5);
        CHECK.due("company: not who is SPENT, not who is elsewhere", said(saying("company")), 2);
        GivenMinutes x = saying("company*10+step+given");
        x.stay(3, true);
        CHECK.due("company: also who STAYS IN", said(x), 20);
        x.give(2, 9);
        CHECK.due("company: not SPENT any more", said(x), 30);
        CHECK.due("the same then", x.robbed(1, 0, 2), 30 + 30 + 29);
        x.steps(1);
        CHECK.due("given of who says, and the STEP", x.later(1, 4), 59);
        for (int shown = 0; shown < 60; shown++) {
            GivenMinutes y = CHECK.quay("person 20 30 1 0;person 500 " + (shown + 30) % 60 + " 0 0;asks mean;says shown;");
            CHECK.due("shown: 0 to 59", said(y), shown);
        }
    }

    /** A NUMBER is what it is, whoever has GIVEN how much. */
    private static void numbersStay() {
        GivenMinutes x = CHECK.quay("person 200 30 1 0;person 500 37 3 0;asks mean=1-0;says 5+0*given-0;");
        x.steps(3);
        CHECK.due("GIVEN", x.person(1, 5), 15);
        CHECK.due("given in one more", x.later(1, 4), 5);
        GivenMinutes y = CHECK.quay("person 200 30 1 0;person 500 37 3 0;asks mean=1;says 0;");
        y.steps(3);
        CHECK.due("0 in one more", y.later(1, 4), 0);
        GivenMinutes z = CHECK.quay("person 200 30 1 0;person 500 37 3 0;asks mean=1;says (step=0)*7;");
        z.steps(1);
        CHECK.due("0 then", z.later(1, 4), 0);
    }

    private static void companyOfUpToSeven() {
        for (int many = 1; many <= 7; many++) {
            GivenMinutes x = CHECK.quay("person 20 30 1 0;" + "person 500 30 0 0;".repeat(many) + "asks mean;says company;");
            CHECK.due("company of " + many, said(x), many);
            for (int p = 1; p < many; p++) {
                x.stay(p, true);
            }
            CHECK.due("company of " + many + ", most of whom STAY IN", x.robbed(many, 0, 1), many);
        }
        GivenMinutes x = CHECK.quay("person 20 30 1 0;person 500 30 0 0;person 5 30 0 0;asks mean;says company;");
        String elsewhere = "corners 2;person 20 30 1 0;person 500 30 0 0;person 5 30 0 1;person 5 30 0 1;asks company=";
        CHECK.due("company at one's CORNER", CHECK.quay(elsewhere + "1;").asked(0, 1), 1);
        CHECK.due("not elsewhere", CHECK.quay(elsewhere + "3;").asked(0, 1), -1);
        CHECK.due("company of 2", said(x), 2);
        CHECK.due("the one who is SPENT isn't counted any more", x.robbed(1, 0, 7), 2 * 5 + 1 * 2);
    }

    /** 'given' is kept to 9999, 'theirs' and 'left' go up to 999, 'step' goes on above 999. */
    private static void valuesAtTheirMost() {
        GivenMinutes x = CHECK.quay("person 999 30 0 0;person 999 30 0 0;asks 1;says 59-50*(given=9999)-(9999<given);");
        for (int n = 0; n < 9; n++) {
            x.steps(20);
        }
        CHECK.due("GIVEN", x.person(0, 5), 9999);
        CHECK.due("given is 9999", x.later(1, 4), 18);
        GivenMinutes y = CHECK.quay("person 999 30 1 0;person 999 30 0 0;asks mean and left=999;says 5*(theirs=999)+(left=999);");
        CHECK.due("999 are LEFT", said(y), 6);
        GivenMinutes z = CHECK.quay("person 0 30 1 0;person 999 30 0 0;asks mean and 1003<step and step<1005;says step-1000;");
        for (int n = 0; n < 49; n++) {
            z.steps(20);
        }
        z.steps(19);
        z.give(0, 100);
        z.give(1, 100);
        CHECK.due("STEP", z.count(2), 999);
        CHECK.due("not in STEP 1003", z.later(5, 4), 0);
        CHECK.due("in STEP 1004", z.later(6, 4), 4);
        CHECK.due("not in STEP 1005", z.later(7, 4), 4);
    }

    public static void main(String[] args) {
        aheadOfAPart();
        behindAPart();
        testsAreNotSideBySide();
        withinSixOthers();
        sevenNots();
        theLeastFault();
        ints();
        cutDown();
        fromTheLeft();
        mostParts();
        testsAreOneOrZero();
        valuesOfOne();
        numbersStay();
        companyOfUpToSeven();
        valuesAtTheirMost();
        CHECK.end();
    }
}
