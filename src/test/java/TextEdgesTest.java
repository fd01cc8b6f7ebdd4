import java.util.function.ToIntFunction;

/** Promises 1 to 4 at each boundary that the document names of tape and text: at it, and one step to each side. */
public final class TextEdgesTest {
    private static final Check CHECK = new Check();
    private static final String PERSON = "person 1 2 3 0;";
    private static final int BLANK = 0x20202020;

    private static void due(String what, int got, int want) {
        CHECK.due(what, got, want);
    }

    // ==== Promise 2: the tape

    private static void tapeOfAtMost700() {
        GivenMinutes x = new GivenMinutes();
        String text = " ".repeat(681) + "corners 5;clock 59;";
        for (int n = 20; n <= 680; n += 20) {
            due("feed", x.feed(BLANK, BLANK, BLANK, BLANK, BLANK), n);
        }
        due("680", x.count(11), 680);
        due("700", x.feed(0x20636f72, 0x6e657273, 0x20353b63, 0x6c6f636b, 0x2035393b), 700);
        due("720", x.feed(-1, -1, -1, -1, -1), -1);
        due("720 again", x.feed(0, 0, 0, 0, 0), -1);
        due("none come", x.count(11), 700);
        due("a refused feed() is no refused call of STATUS", x.count(12) + x.count(13) + x.count(14), 0);
        CHECK.illegal("701", () -> x.quay(701));
        due("all 700", x.quay(700), 0);
        due("the last bytes", 10 * x.count(3) + x.count(0), 595);
        due("the tape is empty", x.feed(BLANK, BLANK, BLANK, BLANK, BLANK), 20);
        CHECK.fine(text);
        CHECK.fault(1, text.substring(0, 699) + "^");
    }

    private static void eachByteOfAFeed() {
        for (int k = 0; k < 20; k++) {
            int[] row = {BLANK, BLANK, BLANK, BLANK, BLANK};
            row[k / 4] |= 255 << 24 - 8 * (k % 4);
            GivenMinutes x = new GivenMinutes();
            x.feed(BLANK, BLANK, BLANK, BLANK, BLANK);
            due("feed", x.feed(row[0], row[1], row[2], row[3], row[4]), 40);
            due("byte " + k, x.quay(40), 1);
            due("place of byte " + k, x.fault(), 20 + k);
        }
    }

    // ==== Promise 3: the first n bytes

    private static void firstBytes() {
        String text = "corners 4;clock 59; ";
        int[] place = {-1, 0, 0, 0, 0, 0, 0, 7, 8, 9, -1, 10, 10, 10, 10, 15, 16, 17, 18, -1, -1};
        for (int n = 0; n <= 20; n++) {
            GivenMinutes x = new GivenMinutes();
            Check.feed(x, text);
            due("quay " + n, x.quay(n), place[n] < 0 ? 0 : 1);
            due("fault of the first " + n, x.fault(), place[n]);
            due("corners of the first " + n, x.count(0), place[n] < 0 && n >= 10 ? 4 : 3);
            due("clock of the first " + n, x.count(3), place[n] < 0 && n >= 19 ? 59 : 0);
            due("tape behind the first " + n, x.count(11), 0);
            CHECK.illegal("quay 1 of none", () -> x.quay(1));
            due("quay 0 of none", x.quay(0), 0);
            due("all anew", x.count(0), 3);
        }
        GivenMinutes x = new GivenMinutes();
        due("nothing of nothing", x.quay(0), 0);
        Check.feed(x, text);
        for (int n : new int[] {-1, Integer.MIN_VALUE, 21, 700, Integer.MAX_VALUE}) {
            CHECK.illegal("quay " + n, () -> x.quay(n));
            due("the tape stays at " + n, x.count(11), 20);
            due("no STATUS of " + n, x.count(12), 0);
        }
        due("the tape has 20", x.quay(20), 0);
    }

    /** Much is so: ACTS, SEEN, an image, STATUS of all three kinds, twenty bytes on the tape. */
    private static GivenMinutes busy() {
        GivenMinutes x = CHECK.quay("corners 4;clock 58;asks left<90;says shown/3;" + PERSON + "miser 300 50 1 0 3;person 500 7 0 0 1;");
        Check.tell(x, "clock 60;");
        x.see(0, 1, 5);
        x.see(0, 21, 5);
        x.give(1, 101);
        x.steps(2);
        x.image();
        x.stay(1, true);
        x.stop(true);
        x.see(2, 0, 400);
        x.feed(0x636f726e, 0x65727320, 0x373b0000, 0x6173776e, 0x0a0a0a0a);
        return x;
    }

    /** busy() behind a good text: the tape is empty, and a FAULT was told of last. */
    private static GivenMinutes busyWithout() {
        GivenMinutes x = busy();
        CHECK.due("corners 7", x.quay(10), 2);
        return x;
    }

    private static void whatAFaultLeaves() {
        String[] texts = {"corners 2;x", "corners 2;clock 60;", PERSON + "asks theirs;", PERSON + "corners 2;", "says 1;says 2;"};
        int[] places = {10, 16, 20, 15, 7};
        for (int k = 0; k < texts.length; k++) {
            GivenMinutes x = busyWithout();
            GivenMinutes like = busyWithout();
            due(texts[k], Check.tell(x, texts[k]), k + 1);
            due("place of " + texts[k], x.fault(), places[k]);
            due("STATUS of " + texts[k], x.count(12), 3);
            due("STATUS else of " + texts[k], 10 * x.count(13) + x.count(14), 11);
            due("the tape is empty", x.count(11), 0);
            // The other one's FAULT is made the same by a text that is wrong there, too.
            Check.tell(like, " ".repeat(places[k]) + "x");
            CHECK.due("all else stays at " + texts[k], Check.whole(x), Check.whole(like));
        }
    }

    private static void whatAnExceptionLeaves() {
        for (int n : new int[] {21, -1, Integer.MIN_VALUE, Integer.MAX_VALUE}) {
            ToIntFunction<GivenMinutes> call = x -> x.quay(n);
            CHECK.staysAndThrows("quay " + n, TextEdgesTest::busy, call, IllegalArgumentException.class);
        }
    }

    private static void whatAGoodTextLeaves() {
        GivenMinutes x = busyWithout();
        due("STATUS ahead", x.count(12), 2);
        due("nothing is told", x.quay(0), 0);
        int[] want = {3, 0, 0, 0, 0, 0, 0, 0, 0, 0, 0, 0, 2, 1, 1};
        for (int what = 0; what < want.length; what++) {
            due("anew: count " + what, x.count(what), want[what]);
        }
        due("no FAULT", x.fault(), -1);
        due("no ACTS", x.undo(), -1);
        due("no image", x.restore() ? 1 : 0, 0);
        due("nothing SEEN", x.fast(2), 1);
        due("PERSON by PERSON without rules", Check.tell(x, "person 61 30 0 0;person 60 45 0 0;"), 0);
        due("60 asks without ASKS", x.asked(1, 1), 0);
        due("61 doesn't ask without ASKS", x.asked(0, 1), -1);
        due("what the WATCH shows without SAYS", x.later(1, 4), 0);
        due("nobody STAYS IN", x.count(6), 0);
        due("THE CLOCK isn't STOPPED", x.count(4), 0);
    }

    /** What texts ahead told, good ones or with a FAULT, tells nothing of the next one. */
    private static void allAnew() {
        GivenMinutes x = new GivenMinutes();
        String much = "corners 6;" + "miser 999 59 9 5 5 5 5 5 5;".repeat(8) + "clock 59;asks left*7;says given+3;";
        String little = "person 60 45 0 0;person 900 45 0 0;";
        String[] ahead = {much, much + "x", much + much, "corners 6;miser 1 2 3 5;", "says 1;asks 1;miser 1 2 3 0;x", little + "x", ""};
        for (String first : ahead) {
            for (String second : ahead) {
                Check.tell(x, first);
                Check.tell(x, second);
                due("little", Check.tell(x, little), 0);
                due("CORNERS", x.count(0), 3);
                due("PEOPLE", x.count(1), 2);
                due("THE CLOCK", x.count(3), 0);
                due("LEFT of all", x.count(7), 960);
                due("no misers", x.person(0, 6) + x.person(1, 6), 0);
                due("a WALK of one CORNER", x.where(0, 2), 0);
                due("no ASKS", x.asked(0, 1), 1);
                due("no SAYS", x.later(1, 4), 15);
            }
            x = new GivenMinutes();
        }
    }

    // ==== Promise 4: the place of the latest FAULT

    private static void latestFault() {
        GivenMinutes x = new GivenMinutes();
        due("new", x.fault(), -1);
        Check.tell(x, "  x");
        due("FAULT", x.fault(), 2);
        due("once more", x.fault(), 2);
        CHECK.illegal("no bytes", () -> x.quay(1));
        due("behind an exception", x.fault(), 2);
        Check.tell(x, "y");
        due("the latest", x.fault(), 0);
        Check.tell(x, "asks 1;");
        due("none", x.fault(), -1);
        CHECK.illegal("no bytes", () -> x.quay(1));
        due("none behind an exception", x.fault(), -1);
        x.steps(0);
        due("not of ACTS", x.fault(), -1);
    }

    // ==== NUMBERS

    /** From least to most a NUMBER is read; one step further it is FAULT 2; of 5 digits always. */
    private static void number(String head, int least, int most, String tail, ToIntFunction<GivenMinutes> read) {
        for (int n = least; n <= most; n++) {
            if (n == least + 2 && n < most - 1) {
                n = most - 1;
            }
            for (String digits : new String[] {"" + n, "%04d".formatted(n)}) {
                GivenMinutes x = CHECK.quay(head + digits + tail);
                due("read of " + head + digits + tail, read.applyAsInt(x), n);
            }
            CHECK.fault(2, head + "^" + "%05d".formatted(n) + tail);
        }
        for (int n = 0; n < least; n++) {
            CHECK.fault(2, head + "^" + n + tail);
        }
        CHECK.fault(2, head + "^" + (most + 1) + tail);
        CHECK.fault(2, head + "^9999" + tail);
        CHECK.fault(2, head + "^10000" + tail);
        CHECK.fault(2, head + "^4294967296" + tail);
        CHECK.fault(1, head + "^;" + tail);
        CHECK.fault(1, head + "^-1" + tail);
        CHECK.fault(1, head + "^left" + tail);
    }

    private static void numbers() {
        number("corners ", 2, 6, ";", x -> x.count(0));
        number("clock ", 0, 59, ";", x -> x.count(3));
        for (String who : new String[] {"person ", "miser "}) {
            number(who, 0, 999, " 2 3 0;", x -> x.person(0, 0));
            number(who + "1 ", 0, 59, " 3 0;", x -> x.person(0, 1));
            number(who + "1 2 ", 0, 9, " 0;", x -> x.person(0, 3));
        }
        due("CORNERS without", CHECK.quay("clock 1;").count(0), 3);
        due("THE CLOCK without", CHECK.quay("corners 4;").count(3), 0);
        due("PEOPLE without", CHECK.quay("corners 4;").count(1), 0);
    }

    private static void numbersOfAnExpr() {
        for (String head : new String[] {"asks ", "says 1+", "asks not ", "says (1)*"}) {
            CHECK.fine(head + "0;");
            CHECK.fine(head + "0000;");
            CHECK.fine(head + "9998;");
            CHECK.fine(head + "9999;");
            CHECK.fault(2, head + "^10000;");
            CHECK.fault(2, head + "^00000;");
            CHECK.fault(2, head + "^00001;");
            CHECK.fault(2, head + "^123456789012;");
        }
        due("all that are LEFT", CHECK.quay("person 9 30 0 0;person 9 30 0 0;says 9999-9940;").robbed(1, 0, 1), 9);
        due("9999 is read", CHECK.quay("person 9 30 0 0;person 99 30 0 0;says 9999-9940;").robbed(1, 0, 1), 59);
        due("four digits and no more", CHECK.quay("person 9 30 0 0;person 99 30 0 0;says 0012 ;").robbed(1, 0, 1), 12);
    }

    // ==== CORNERS of a WALK

    private static void cornersThatThereAre() {
        for (int corners = 2; corners <= 6; corners++) {
            String head = corners == 3 ? "" : "corners " + corners + ";";
            for (int k = 0; k < 6; k++) {
                String walk = head + "person 1 2 3 " + "0 ".repeat(k);
                CHECK.fine(walk + (corners - 1) + ";");
                CHECK.fault(3, walk + "^" + corners + ";");
                CHECK.fault(3, walk + "^" + (corners + 1) + ";");
                CHECK.fault(3, walk + "^9999;");
                CHECK.fault(2, walk + "^10000;");
                CHECK.fault(2, walk + "^00000;");
            }
            String walk = head + "person 1 2 3 0 0 0 0 0 0 ";
            CHECK.fault(2, walk + "^" + (corners - 1) + ";");
            CHECK.fault(2, walk + "^" + corners + ";");
            CHECK.fault(2, walk + "^10000;");
            CHECK.fault(1, walk + "^x;");
            due("the last CORNER", CHECK.quay(head + "miser 1 2 3 000" + (corners - 1) + ";").where(0, 1), corners - 1);
        }
        CHECK.fault(3, "corners 2;person 1 2 3 0 1 ^2;");
        CHECK.fault(3, "clock 5;person 1 2 3 ^3;");
        CHECK.fine("corners 0004;person 1 2 3 0003;");
    }

    private static void lengthOfAWalk() {
        CHECK.fault(1, "person 1 2 3 ^;");
        for (int k = 1; k <= 6; k++) {
            GivenMinutes x = CHECK.quay("person 1 2 3" + " 1".repeat(k - 1) + " 2;");
            due("the last of " + k, x.where(0, k), 2);
            due("the next of " + k, x.where(0, k + 1), k == 1 ? 2 : 1);
        }
        CHECK.fault(2, "person 1 2 3 0 1 2 0 1 2 ^0;");
        CHECK.fault(2, "person 1 2 3 0 1 2 0 1 2 ^0 0;");
        CHECK.fault(2, PERSON + "person 1 2 3 0 1 2 0 1 2 ^0 ");
    }

    // ==== PEOPLE

    private static void eightPeople() {
        for (int many = 0; many <= 8; many++) {
            GivenMinutes x = CHECK.quay(PERSON.repeat(many));
            due("PEOPLE", x.count(1), many);
            due("who isn't SPENT", x.count(5), (1 << many) - 1);
            CHECK.noSuch("the one behind the last", () -> x.person(x.count(1), 0));
        }
        CHECK.fault(2, PERSON.repeat(8) + "^person 1 2 3 0;");
        CHECK.fault(2, PERSON.repeat(8) + "^miser");
        CHECK.fault(2, PERSON.repeat(4) + "clock 5;asks 1;" + PERSON.repeat(4) + "says 1;^person x");
        CHECK.fault(2, PERSON.repeat(7) + "miser 1 2 3 0;  ^person 1 2 3 0;");
        CHECK.fine(PERSON.repeat(8) + "clock 5;asks 1;says 1;");
        // The 9th isn't a PERSON where a LINE can't begin.
        CHECK.fault(1, PERSON.repeat(7) + "person 1 2 3 0 ^person 1 2 3 0;");
    }

    // ==== TOKENS

    private static boolean isLetter(int c) {
        return c >= 'a' && c <= 'z';
    }

    private static void eachByte() {
        for (int c = 0; c < 256; c++) {
            String b = String.valueOf((char) c);
            if (c == '^') {
                continue;
            }
            boolean isBlank = c == 32 || c == 10;
            if (isBlank) {
                CHECK.fine(b);
                CHECK.fine("clock" + b + "5" + b + ";" + b);
                CHECK.fault(1, "clock 5" + b + "^5;");
                CHECK.fault(1, "^clo" + b + "ck 5;");
            } else {
                CHECK.fault(1, "^" + b);
                CHECK.fault(1, "clock 5;^" + b + "clock 5;");
            }
            if (c >= '0' && c <= '9') {
                CHECK.fine("clock 5" + b + ";");
                CHECK.fault(1, "clock5;^" + b + ";");
            } else if (c == ';') {
                CHECK.fault(1, "clock 5" + b + "^;");
            } else if (!isBlank) {
                CHECK.fault(1, "clock 5^" + b + ";");
            }
            if (isLetter(c)) {
                CHECK.fault(1, "^clock" + b + " 5;");
                CHECK.fault(1, "^" + b + "clock 5;");
            } else if (!isBlank && (c < '0' || c > '9')) {
                CHECK.fault(1, "clock^" + b + " 5;");
            }
        }
    }

    private static void longestRows() {
        CHECK.fine("clock5;corners4;person1 2 3 0;asks(left)and(shown)or not(mean);");
        CHECK.fine("asks 1or 2and 3;");
        CHECK.fine("asks 1or2and3;");
        CHECK.fine("asks left\nand\nshown;");
        CHECK.fault(1, "^asksleft;");
        CHECK.fault(3, "asks ^leftand shown;");
        CHECK.fault(1, "asks left ^andshown;");
        CHECK.fault(3, "asks ^notleft;");
        CHECK.fault(3, "asks ^lef t;");
        CHECK.fault(3, "asks ^le;");
        CHECK.fault(3, "asks ^lefts;");
        CHECK.fault(3, "asks ^aleft;");
        CHECK.fault(3, "says ^theirsgiven;");
        CHECK.fault(1, "^corner 3;");
        CHECK.fault(1, "^cornerss 3;");
        CHECK.fault(1, "^persons 1 2 3 0;");
        CHECK.fault(1, "^Corners 3;");
        CHECK.fault(1, "corners 3 ^corners;");
        CHECK.fault(3, "asks ^" + "a".repeat(690) + ";");
        CHECK.fault(1, "^" + "a".repeat(700));
        CHECK.fault(2, "clock ^" + "1".repeat(694));
        CHECK.fault(1, "^" + "1".repeat(700));
        CHECK.fault(1, "corners 3;\n\n  ^,");
    }

    private static void endsTooSoon() {
        String[] texts = {"corners 4;", "clock 59;", "person 12 34 5 2 1;", "miser 12 34 5 2;", "asks left+(shown*2)<mean and not 1;",
            "says(given)-theirs;"};
        for (String text : texts) {
            CHECK.fine(text);
            CHECK.fault(1, text.substring(0, text.length() - 1) + "^");
            CHECK.fault(1, text.substring(0, text.length() - 1) + "  \n^");
        }
        for (String word : new String[] {"corners", "clock", "person", "miser", "miser 1", "person 1 2 3", "asks", "says", "asks not",
            "asks (", "says 1 +", "asks left <", "asks 1 or", "corners 3; clock"}) {
            CHECK.fault(1, word + "^");
            CHECK.fault(1, word + " \n ^");
        }
    }

    public static void main(String[] args) {
        tapeOfAtMost700();
        eachByteOfAFeed();
        firstBytes();
        whatAFaultLeaves();
        whatAnExceptionLeaves();
        whatAGoodTextLeaves();
        allAnew();
        latestFault();
        numbers();
        numbersOfAnExpr();
        cornersThatThereAre();
        lengthOfAWalk();
        eightPeople();
        eachByte();
        longestRows();
        endsTooSoon();
        CHECK.end();
    }
}
