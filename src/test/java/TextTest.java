/** Promises 1 to 4: the tape, texts, and where their FAULTS are. */
public final class TextTest {
    private static final Check CHECK = new Check();
    private static final String PERSON = "person 1 2 3 0;";

    private static void fault(int code, String marked) {
        CHECK.fault(code, marked);
    }

    private static void fine(String text) {
        CHECK.fine(text);
    }

    private static void newObject() {
        GivenMinutes x = new GivenMinutes();
        CHECK.due("NONE", GivenMinutes.NONE, -1);
        for (int what = 0; what < 15; what++) {
            CHECK.due("new count " + what, x.count(what), what == 0 ? 3 : 0);
        }
        CHECK.due("new fault", x.fault(), -1);
        CHECK.noSuch("new person", () -> x.person(0, 0));
        CHECK.due("new restore", x.restore(), false);
        CHECK.due("new undo", x.undo(), -1);
    }

    private static void tape() {
        GivenMinutes x = new GivenMinutes();
        for (int n = 20; n <= 700; n += 20) {
            CHECK.due("feed", x.feed(0x20202020, 0x20202020, 0x20202020, 0x20202020, 0x2020200a), n);
        }
        CHECK.due("feed above 700", x.feed(0, 0, 0, 0, 0), -1);
        CHECK.due("tape", x.count(11), 700);
        CHECK.illegal("quay 701", () -> x.quay(701));
        CHECK.illegal("quay -1", () -> x.quay(-1));
        CHECK.illegal("quay least", () -> x.quay(Integer.MIN_VALUE));
        CHECK.due("tape stays", x.count(11), 700);
        CHECK.due("all blank", x.quay(700), 0);
        CHECK.due("tape is empty", x.count(11), 0);
        CHECK.illegal("quay 1 of none", () -> x.quay(1));
        CHECK.due("quay 0", x.quay(0), 0);
        // Of each number the highest byte comes first: "corn", "ers ", "4;  ".
        x.feed(0x636f726e, 0x65727320, 0x343b2020, 0x20202020, 0x20202020);
        CHECK.due("first bytes alone", x.quay(10), 0);
        CHECK.due("corners", x.count(0), 4);
        CHECK.due("the rest is gone", x.count(11), 0);
        x.feed(0x636f726e, 0x65727320, 0x343b2020, 0x20202020, 0x20202020);
        CHECK.due("too soon", x.quay(9), 1);
        CHECK.due("too soon at", x.fault(), 9);
        CHECK.due("corners stay", x.count(0), 4);
        x.feed(-1, 0, 0, 0, 0);
        CHECK.due("byte 255", x.quay(1), 1);
    }

    private static void anew() {
        GivenMinutes x = CHECK.quay("corners 6;" + PERSON + "clock 7;asks 1;says 2;");
        x.steps(3);
        x.give(0, 5);
        x.see(0, 1, 1);
        x.image();
        x.set(0, 60);
        CHECK.due("faulty", Check.tell(x, "clock 60;"), 2);
        CHECK.due("place", x.fault(), 6);
        CHECK.due("step stays", x.count(2), 3);
        CHECK.due("acts stay", x.count(9), 2);
        CHECK.due("seen stays", x.count(10), 1);
        CHECK.due("corners stay", x.count(0), 6);
        CHECK.illegal("exception", () -> x.quay(5));
        CHECK.due("place stays", x.fault(), 6);
        CHECK.due("image stays", x.restore(), true);
        CHECK.due("place is not of the image", x.fault(), 6);
        CHECK.due("status is of the image", x.count(12), 0);
        x.set(0, 60);
        CHECK.due("anew", Check.tell(x, "person 9 9 9 2 1;"), 0);
        CHECK.due("no fault", x.fault(), -1);
        int[] due = {3, 1, 0, 0, 0, 1, 0, 9, 0, 0, 0, 0, 0, 1, 0};
        for (int what = 0; what < due.length; what++) {
            CHECK.due("anew count " + what, x.count(what), due[what]);
        }
        CHECK.due("no image", x.restore(), false);
        CHECK.due("no acts", x.undo(), -1);
        CHECK.due("walk", x.person(0, 4), 2);
        CHECK.due("rules that give", Check.tell(x, "person 10 30 0 0;person 90 30 0 0;asks left=10;says 7;"), 0);
        x.steps(1);
        CHECK.due("given", x.person(1, 5), 7);
        CHECK.due("no rules any more", Check.tell(x, "person 9 30 0 0 1;person 90 35 0 0;miser 0 0 0 1;"), 0);
        CHECK.due("nothing is given", x.person(1, 5), 0);
        CHECK.due("asks without a rule", x.asked(0, 1), 1);
        CHECK.due("says without a rule", x.robbed(1, 0, 1), 5);
        CHECK.due("the walk is new", x.where(1, 2), 0);
        CHECK.due("faulty", Check.tell(x, "miser 1 1 1 0;says 3;asks 1;clock 60;"), 2);
        CHECK.due("says as before", x.robbed(1, 0, 1), 5);
        CHECK.due("nobody", Check.tell(x, ""), 0);
        CHECK.due("left of nobody", x.count(7), 0);
        CHECK.due("nobody isn't spent", x.count(5), 0);
    }

    private static void fineTexts() {
        fine("");
        fine("\n \n");
        fine("corners2;person0 0 0 0 1;miser 999 59 9 1 1 1 1 1 1;clock 59;asks left;says given;");
        fine("person 0999 0059 0009 0002;clock 0000;");
        fine("asks 9999+0000;");
        fine("says theirs;");
        fine("asks not not not not not not left;");
        fine("asks not not not not not not(not left);");
        fine("asks (((((1)))));");
        fine("asks not 1 < 2 and not not 3 = 4 or (5 < 6) = (7 < 8);");
        fine("asks 1 and not 2 or not 3;");
        fine("says(left-shown)*mean/company+step;");
        fine("clock 5;corners 2;");
        fine(PERSON.repeat(8));
        fine("person 1 2 3 2;");
        fine("corners 6;person 1 2 3 5 4 3 2 1 0;");
    }

    private static void cantStand() {
        fault(1, "^x");
        fault(1, "^;");
        fault(1, "^12345;");
        fault(1, "^left;");
        fault(1, "^A");
        fault(1, "corners 3;^\t");
        fault(1, "corners ^;");
        fault(1, "corners ^corners;");
        fault(1, "corners 3 ^3;");
        fault(1, "corners 3^");
        fault(1, "corners^");
        fault(1, "corners  ^");
        fault(1, "^cornersx 3;");
        fault(1, "person 1 2 ^;");
        fault(1, "person 1 2 3 ^;");
        fault(1, "person 1 2 3 0 ^x;");
        fault(1, "person 1 2 3 0 ^person 1 2 3 0;");
        fault(1, "miser ^-1 2 3 0;");
        fault(1, "clock 3 ^and 3;");
        fault(1, "asks ^;");
        fault(1, "asks ^");
        fault(1, "asks ^);");
        fault(1, "asks 1 + ^+ 1;");
        fault(1, "asks ^- 1;");
        fault(1, "asks 1 ^2;");
        fault(1, "asks 1 ^22222;");
        fault(1, "asks left ^left;");
        fault(1, "asks left ^blue;");
        fault(1, "asks 1 ^not 2;");
        fault(1, "asks 1 ^);");
        fault(1, "asks (1^;");
        fault(1, "asks (1 + 2)^");
        fault(1, "asks 1 < 2 ^< 3;");
        fault(1, "asks 1 = 2 + 3 ^= 3;");
        fault(1, "asks not 1 < 2 ^= 3;");
        fault(1, "asks 1 ^(2);");
        fault(1, "asks 1 ^> 2;");
        fault(1, "asks ((((((^);");
        fault(1, "asks ((((((^+1;");
        fault(1, "asks ((((((^");
        fault(1, "asks ^\u00e9;");
    }

    private static void longTexts() {
        String sum = "asks 1" + "+1".repeat(346);
        fine(sum + ";");
        fine(sum + " ;");
        fault(1, sum + "+1^");
        fault(2, "says 1" + "+(1)".repeat(170) + "+12+^12345;");
        fine(PERSON.repeat(8) + "says 1" + "*1".repeat(280) + ";");
    }

    private static void tooMuch() {
        fault(2, "corners ^1;");
        fault(2, "corners ^7;");
        fault(2, "corners ^00003;");
        fault(2, "clock ^60;");
        fault(2, "person ^1000 2 3 0;");
        fault(2, "person 1 ^60 3 0;");
        fault(2, "person 1 2 ^10 0;");
        fault(2, "person ^1111111111111 2 3 0;");
        fault(2, "person 1 2 3 ^00000;");
        fault(2, "person 1 2 3 0 1 2 0 1 2 ^0;");
        fault(2, "person 1 2 3 0 1 2 0 1 2 ^9;");
        fault(2, PERSON.repeat(8) + "^person;");
        fault(2, PERSON.repeat(8) + "^miser 1 2 3 0;");
        fault(2, "asks ^10000;");
        fault(2, "asks 1 + ^99999;");
        fault(2, "asks ((((((^1))))));");
        fault(2, "asks ((((((^left))))));");
        fault(2, "asks ((((((^blue))))));");
        fault(2, "asks ((((((^not 1))))));");
        fault(2, "asks ((((((^(1)))))));");
        fault(2, "asks ((((((^11111))))));");
        fault(2, "asks 1 + (1 + (1 + (1 + (1 + (1 + (^1))))));");
        fault(2, "asks not not not not not not ^not 1;");
        fault(2, "asks 1 and (not not not not not not ^not 1);");
    }

    private static void isntThere() {
        fault(3, "asks ^blue;");
        fault(3, "asks ^z;");
        fault(3, "asks ^zz;");
        fault(3, "asks ^and;");
        fault(3, "asks ^or 1;");
        fault(3, "asks ^corners;");
        fault(3, "asks 1 + ^not 1;");
        fault(3, "asks 1 < ^not 1;");
        fault(3, "asks not ^and;");
        fault(3, "asks ^theirs;");
        fault(3, "asks ^given;");
        fault(3, "asks left * ^theirs;");
        fault(3, "says ^lefts;");
        fault(3, "person 1 2 3 ^3;");
        fault(3, "person 1 2 3 ^9999;");
        fault(3, "corners 2;person 1 2 3 1 0 ^2;");
        fault(3, "corners 6;person 1 2 3 5 ^6;");
    }

    private static void tooLateOrAgain() {
        fault(4, PERSON + "^corners 3;");
        fault(4, "corners 3;" + PERSON + "^corners 3;");
        fault(5, "corners 3;^corners 9;");
        fault(5, "clock 3;^clock 3;");
        fault(5, "asks 1;^asks 1;");
        fault(5, "says 1;asks 1;^says 1;");
        fault(1, "^blue;corners 3;corners 3;");
    }

    public static void main(String[] args) {
        newObject();
        tape();
        anew();
        fineTexts();
        longTexts();
        cantStand();
        tooMuch();
        isntThere();
        tooLateOrAgain();
        CHECK.end();
    }
}
