import java.util.NoSuchElementException;

/** Promises 5 to 12, 33, 36, 40, 41 at each boundary: ACTS, what they refuse and what stays then, UNDONE, SEEN, STATUS, the image. */
public final class ActEdgesTest {
    private static final Check CHECK = new Check();
    private static final int MOST = Integer.MAX_VALUE;
    private static final int LEAST = Integer.MIN_VALUE;

    private static void due(String what, int got, int want) {
        CHECK.due(what, got, want);
    }

    private static void due(String what, boolean got, boolean want) {
        CHECK.due(what, got, want);
    }

    /** Four PEOPLE; ACTS, SEEN, STATUS of each kind, an image, bytes on the tape: enough to see what a call changes. */
    private static GivenMinutes busy() {
        GivenMinutes x = CHECK.quay("corners 4;person 5 40 2 0 1;person 300 30 0 0;miser 990 59 1 0 2;person 50 0 3 1;clock 58;"
            + "asks left<90;says shown/3;");
        Check.tell(x, "clock 60;");
        x.see(0, 1, 5);
        x.see(0, 21, 5);
        x.steps(2);
        x.give(1, 101);
        x.stay(3, true);
        x.image();
        x.set(1, 7);
        x.stop(true);
        x.see(2, 0, 400);
        x.feed(0x636f726e, 0x65727320, 0x373b0000, 0, 0);
        return x;
    }

    /** busy() at STEP 990 of at most 999. */
    private static GivenMinutes late() {
        GivenMinutes x = CHECK.quay("corners 2;person 999 40 2 0 1;person 999 30 0 0;person 3 0 0 1;asks mean;says 1;");
        for (int n = 0; n < 49; n++) {
            x.steps(20);
        }
        x.steps(10);
        return x;
    }

    // ==== Promise 7: STEPS go by

    private static void howManySteps() {
        for (int many : new int[] {0, -1, -20, 21, 22, 999, LEAST, MOST}) {
            CHECK.stays("steps " + many, ActEdgesTest::busy, x -> x.steps(many), -1, 1);
        }
        for (int many = 1; many <= 20; many++) {
            GivenMinutes x = busy();
            due("steps " + many, x.steps(many), 2 + many);
            due("one ACT", x.count(9), 5);
            due("not refused", x.count(13), 1);
            due("the STEP", x.count(2), 2 + many);
            GivenMinutes y = busy();
            for (int n = 0; n < many; n++) {
                y.steps(1);
            }
            for (int p = 0; p < 4; p++) {
                due("as many single ones", x.person(p, 0), y.person(p, 0));
            }
            due("UNDONE at once", x.undo(), 4);
            CHECK.due("as ahead of them", Check.told(x), Check.told(busy()));
        }
    }

    private static void stepsUpTo999() {
        for (int many = 1; many <= 20; many++) {
            GivenMinutes x = late();
            int acts = x.count(9);
            String before = Check.told(x);
            if (many <= 9) {
                due("up to " + (990 + many), x.steps(many), 990 + many);
                due("so many more", x.steps(10 - many), -1);
                due("not refused, refused", x.count(13), 1);
                due("up to 999", many == 9 ? 999 : x.steps(9 - many), 999);
                due("none more", x.steps(1), -1);
                due("none more", x.steps(20), -1);
                due("STEP 999", x.count(2), 999);
                due("other ACTS go on", x.give(0, 1) > 0, true);
                due("questions go further", x.then(0, 60, 1), x.person(0, 5));
            } else {
                due("above 999", x.steps(many), -1);
                due("refused", x.count(13), 1);
                due("ACTS", x.count(9), acts);
                CHECK.due("all stays", Check.told(x), before);
            }
        }
        GivenMinutes x = late();
        x.undo();
        due("STEP 980", x.count(2), 980);
        due("up to 1000", x.steps(20), -1);
        due("up to 999", x.steps(19), 999);
        due("UNDONE", x.undo(), 39);
        due("STEP 980 again", x.count(2), 980);
    }

    // ==== Promise 8: a WATCH is SET

    private static void setWatches() {
        for (int watch : new int[] {-1, -60, 60, 61, LEAST, MOST, 7}) {
            CHECK.stays("set " + watch, ActEdgesTest::busy, x -> x.set(1, watch), -1, 1);
        }
        for (int person : new int[] {-1, 4, 8, LEAST, MOST}) {
            for (int watch : new int[] {-1, 0, 7, 59, 60}) {
                CHECK.staysAndThrows("set of " + person, ActEdgesTest::busy, x -> x.set(person, watch), NoSuchElementException.class);
            }
        }
        for (int watch : new int[] {0, 1, 6, 8, 58, 59}) {
            GivenMinutes x = busy();
            due("as it was", x.set(1, watch), 7);
            due("the WATCH", x.person(1, 1), watch);
            due("what it shows", x.person(1, 2), (x.count(3) + watch + 30) % 60);
            due("one ACT", x.count(9), 5);
            due("so already", x.set(1, watch), -1);
            due("refused", x.count(13), 2);
            due("no ACT", x.count(9), 5);
            due("UNDONE", x.undo(), 4);
            due("as it was", x.person(1, 1), 7);
            due("the others' WATCHES stay", x.person(0, 1) + x.person(2, 1) + x.person(3, 1), 40 + 59);
        }
    }

    // ==== Promise 9: one is GIVEN by the town

    private static void givenByTheTown() {
        for (int minutes : new int[] {0, -1, -100, 101, 102, LEAST, MOST}) {
            CHECK.stays("give " + minutes, ActEdgesTest::busy, x -> x.give(1, minutes), -1, 1);
        }
        for (int person : new int[] {-1, 4, LEAST, MOST}) {
            for (int minutes : new int[] {0, 1, 100, 101}) {
                CHECK.staysAndThrows("give " + person, ActEdgesTest::busy, x -> x.give(person, minutes), NoSuchElementException.class);
            }
        }
        for (int left = 890; left <= 999; left++) {
            GivenMinutes x = CHECK.quay("person 7 0 0 0;person " + left + " 0 0 0;");
            for (int minutes : new int[] {1, 2, 99, 100}) {
                due("give " + minutes + " to " + left, x.give(1, minutes), Math.min(left + minutes, 999));
                due("LEFT then", x.person(1, 0), Math.min(left + minutes, 999));
                due("one ACT, also where all is as it was", x.count(9), 1);
                due("not refused", x.count(13), 0);
                due("it isn't what one has GIVEN", x.person(1, 5) + x.person(0, 5), 0);
                due("UNDONE", x.undo(), 0);
                due("LEFT as it was", x.person(1, 0), left);
            }
            due("the other one's stay", x.person(0, 0), 7);
        }
        GivenMinutes x = CHECK.quay("person 0 0 0 0;person 1 0 0 0;");
        due("SPENT", x.count(5), 2);
        due("give 1", x.give(0, 1), 1);
        due("not any more", x.count(5), 3);
        due("one asks again", x.asked(0, 1), 1);
        due("SPENT again", x.undo(), 0);
        due("who isn't", x.count(5), 2);
    }

    // ==== Promises 10, 11: THE CLOCK is STOPPED, one STAYS IN

    private static void clockIsStopped() {
        CHECK.stays("stop it twice", ActEdgesTest::busy, x -> x.stop(true) ? 1 : 0, 0, 1);
        GivenMinutes x = CHECK.quay("clock 57;");
        due("it goes", x.stop(false), false);
        due("refused", x.count(13), 1);
        due("no ACT", x.count(9), 0);
        due("stop", x.stop(true), true);
        due("STOPPED", x.count(4), 1);
        due("stop again", x.stop(true), false);
        due("refused", x.count(13), 2);
        due("one ACT", x.count(9), 1);
        x.steps(2);
        due("it stands", x.count(3), 57);
        due("go", x.stop(false), true);
        due("not STOPPED", x.count(4), 0);
        due("as it stood", x.count(3), 57);
        x.steps(1);
        due("5 on", x.count(3), 2);
        due("ACTS", x.count(9), 4);
        x.undo();
        due("ahead of the STEP", x.count(3), 57);
        due("UNDONE", x.undo(), 2);
        due("STOPPED", x.count(4), 1);
    }

    private static void oneStaysIn() {
        CHECK.stays("stay in twice", ActEdgesTest::busy, x -> x.stay(3, true) ? 1 : 0, 0, 1);
        CHECK.stays("stay not, as it is", ActEdgesTest::busy, x -> x.stay(2, false) ? 1 : 0, 0, 1);
        for (int person : new int[] {-1, 4, LEAST, MOST}) {
            for (boolean is : new boolean[] {true, false}) {
                CHECK.staysAndThrows("stay " + person, ActEdgesTest::busy, x -> x.stay(person, is) ? 1 : 0, NoSuchElementException.class);
            }
        }
        GivenMinutes x = CHECK.quay("person 9 0 0 0;".repeat(8));
        int bits = 0;
        for (int p = 7; p >= 0; p--) {
            due("doesn't", x.person(p, 7), 0);
            due("stay", x.stay(p, true), true);
            bits |= 1 << p;
            due("does", x.person(p, 7), 1);
            due("who STAYS IN", x.count(6), bits);
        }
        due("ACTS", x.count(9), 8);
        due("nobody asks", x.silent(60), 60);
        due("not any more", x.stay(3, false), true);
        due("who STAYS IN", x.count(6), 255 - 8);
        due("UNDONE", x.undo(), 8);
        due("who STAYS IN", x.count(6), 255);
        due("UNDONE", x.undo(), 7);
        due("who STAYS IN", x.count(6), 254);
    }

    // ==== Promise 12 and ACTS, of which 40 are kept

    private static void fortyActs() {
        for (int many : new int[] {0, 1, 38, 39, 40, 41, 42, 80, 81}) {
            GivenMinutes x = CHECK.quay("person 9 0 0 0;");
            for (int n = 1; n <= many; n++) {
                x.set(0, n % 59 + 1);
                due("ACTS", x.count(9), Math.min(n, 40));
            }
            for (int n = Math.min(many, 40) - 1; n >= 0; n--) {
                due("how many are left", x.undo(), n);
                due("ACTS that are left", x.count(9), n);
                int ahead = n + Math.max(many - 40, 0);
                due("the WATCH ahead of it", x.person(0, 1), ahead == 0 ? 0 : ahead % 59 + 1);
            }
            String before = Check.told(x);
            due("none", x.undo(), -1);
            due("none again", x.undo(), -1);
            CHECK.due("all stays", Check.told(x), before);
            due("that isn't refused", x.count(13), 0);
            due("an ACT", x.set(0, 59) >= 0, true);
            due("how many are left", x.undo(), 0);
        }
    }

    /** Of 40 ACTS a refused one, or one that throws, drops none. */
    private static void refusedDropNone() {
        GivenMinutes x = CHECK.quay("person 9 0 0 0;");
        for (int n = 1; n <= 40; n++) {
            x.set(0, n);
        }
        x.set(0, 60);
        x.set(0, 40);
        x.give(0, 0);
        x.give(0, 101);
        x.stop(false);
        x.stay(0, false);
        x.steps(0);
        x.steps(21);
        CHECK.noSuch("nobody", () -> x.give(1, 1));
        due("refused", x.count(13), 8);
        due("ACTS", x.count(9), 40);
        for (int n = 39; n >= 0; n--) {
            due("UNDONE", x.undo(), n);
        }
        due("the first one is UNDONE, too", x.person(0, 1), 0);
    }

    private static void theLastOneFirst() {
        GivenMinutes x = CHECK.quay("person 50 30 0 0;person 500 40 0 0;clock 10;");
        String[] told = new String[7];
        told[0] = Check.told(x);
        x.steps(3);
        told[1] = Check.told(x);
        x.set(0, 31);
        told[2] = Check.told(x);
        x.give(0, 100);
        told[3] = Check.told(x);
        x.stop(true);
        told[4] = Check.told(x);
        x.stay(1, true);
        told[5] = Check.told(x);
        x.steps(20);
        for (int n = 5; n >= 0; n--) {
            due("UNDONE", x.undo(), n);
            CHECK.due("as it was ahead of ACT " + n, Check.told(x), told[n]);
        }
        due("none", x.undo(), -1);
        CHECK.stays("undo of none", () -> CHECK.quay("person 5 5 5 0;"), GivenMinutes::undo, -1, -1);
    }

    /** What is SEEN and STATUS are no part of an ACT. */
    private static void undoingLeavesTheRest() {
        GivenMinutes x = CHECK.quay("person 50 30 0 0;");
        x.steps(1);
        x.see(0, 1, 49);
        x.set(0, 60);
        x.see(0, 21, 49);
        Check.tell(x, "x");
        x.feed(0, 0, 0, 0, 0);
        due("UNDONE", x.undo(), 0);
        due("SEEN stays", x.count(10), 1);
        due("by what is now", x.fast(2), 1);
        due("STATUS stays", 100 * x.count(12) + 10 * x.count(13) + x.count(14), 111);
        due("the tape stays", x.count(11), 20);
        due("the FAULT's place stays", x.fault(), 0);
    }

    // ==== Promises 33, 36: SEEN

    private static void eightSeen() {
        int[][] refused = {{-1, 5}, {21, 5}, {LEAST, 5}, {MOST, 5}, {0, -1}, {0, 1000}, {20, LEAST}, {20, MOST}, {21, 1000}, {-1, -1}};
        for (int[] r : refused) {
            CHECK.stays("see " + r[0] + " " + r[1], ActEdgesTest::busy, x -> x.see(1, r[0], r[1]), -1, 2);
        }
        for (int person : new int[] {-1, 4, LEAST, MOST}) {
            for (int steps : new int[] {-1, 0, 20, 21}) {
                CHECK.staysAndThrows("see " + person, ActEdgesTest::busy, x -> x.see(person, steps, 5), NoSuchElementException.class);
                CHECK.staysAndThrows("see " + person, ActEdgesTest::busy, x -> x.see(person, 5, 1000 * steps), NoSuchElementException.class);
            }
        }
        int[][] good = {{0, 0}, {0, 999}, {1, 1}, {1, 998}, {19, 0}, {19, 999}, {20, 0}, {20, 999}};
        GivenMinutes x = CHECK.quay("person 50 30 0 0;person 60 30 0 1;");
        for (int n = 0; n < 8; n++) {
            due("see " + good[n][0] + " " + good[n][1], x.see(n % 2, good[n][0], good[n][1]), n + 1);
            due("SEEN", x.count(10), n + 1);
        }
        due("the ninth", x.see(0, 0, 0), -1);
        due("the ninth, out of its bounds, too", x.see(0, 21, 1000), -1);
        due("SEEN", x.count(10), 8);
        due("refused", x.count(14), 2);
        due("no ACTS", x.count(9) + x.count(13), 0);
        CHECK.noSuch("a ninth of nobody", () -> x.see(2, 0, 0));
        due("not refused", x.count(14), 2);
        x.forget();
        due("forgotten", x.count(10), 0);
        due("STATUS isn't", x.count(14), 2);
        due("from the first again", x.see(0, 0, 50), 1);
        due("that alone", x.fast(2), 1);
        CHECK.stays("forget nothing", () -> CHECK.quay("person 5 5 5 0;"), y -> {
            y.forget();
            return 0;
        }, 0, -1);
    }

    /** Each of the eight counts, the first one as the last one. */
    private static void eachSeenCounts() {
        for (int odd = 0; odd <= 8; odd++) {
            GivenMinutes x = CHECK.quay("person 50 30 0 0;person 60 30 0 1;");
            for (int n = 0; n < 8; n++) {
                x.see(n % 2, n * 20 / 7, 50 + n % 2 * 10 - n * 20 / 7 + (n == odd ? 1 : 0));
            }
            due("whether it is so, but for the one " + odd, x.fast(2), odd == 8 ? 1 : 0);
            due("by which", x.fast(0), odd == 8 ? 118 : 0);
        }
    }

    // ==== 512 calls of one object

    private static void asManyCallsAsThereMayBe() {
        GivenMinutes x = CHECK.quay("");
        for (int n = 2; n <= 511; n++) {
            x.steps(0);
        }
        due("the 512th call", x.count(13), 510);
        GivenMinutes y = CHECK.quay("");
        for (int n = 2; n <= 511; n++) {
            y.steps(1);
        }
        due("the 512th call", y.count(2), 510);
        GivenMinutes z = CHECK.quay("");
        for (int n = 2; n <= 511; n++) {
            z.stop(n % 2 == 0);
        }
        due("the 512th call", z.undo(), 39);
        GivenMinutes w = CHECK.quay("person 999 30 0 0;person 999 30 0 0;asks 1;");
        for (int n = 8; n <= 511; n++) {
            CHECK.noSuch("nobody", () -> w.give(2, 5));
        }
        due("the 512th call", w.steps(20), 20);
    }

    // ==== STATUS

    private static void statuses() {
        GivenMinutes x = CHECK.quay("person 5 5 5 0;");
        for (int n = 1; n <= 3; n++) {
            Check.tell(x, "x");
            due("TEXTS with a FAULT", x.count(12), n);
        }
        for (int n = 1; n <= 3; n++) {
            x.steps(0);
            x.set(0, 60);
            x.give(0, 0);
            x.stop(false);
            x.stay(0, false);
            due("ACTS", x.count(13), 5 * n);
        }
        for (int n = 1; n <= 3; n++) {
            x.see(0, 0, 1000);
            due("SEEN", x.count(14), n);
        }
        due("each of its own", x.count(12) * 10000 + x.count(13) * 100 + x.count(14), 31503);
        due("a good text leaves it", Check.tell(x, "person 5 5 5 0;"), 0);
        due("as it was", x.count(12) * 10000 + x.count(13) * 100 + x.count(14), 31503);
        CHECK.noSuch("nobody", () -> x.set(1, 60));
        CHECK.noSuch("nobody", () -> x.give(1, 0));
        CHECK.noSuch("nobody", () -> x.stay(1, false));
        CHECK.noSuch("nobody", () -> x.see(1, 21, 0));
        CHECK.illegal("no bytes", () -> x.quay(-1));
        x.undo();
        x.restore();
        due("no exception, no undo(), no restore() counts", x.count(12) * 10000 + x.count(13) * 100 + x.count(14), 31503);
    }

    // ==== Promises 40, 41: the image

    private static void noImage() {
        CHECK.stays("restore without", () -> CHECK.quay("person 5 5 5 0;"), x -> x.restore() ? 1 : 0, 0, -1);
        GivenMinutes x = new GivenMinutes();
        due("new", x.restore(), false);
        x.image();
        due("of nobody", x.restore(), true);
        due("a good text", Check.tell(x, "person 5 5 5 0;"), 0);
        due("it is gone", x.restore(), false);
        x.image();
        due("a FAULT", Check.tell(x, "x"), 1);
        CHECK.illegal("no bytes", () -> x.quay(1));
        due("it stays", x.restore(), true);
        due("it stays behind itself", x.restore(), true);
    }

    private static void asTheImage() {
        GivenMinutes x = busy();
        x.image();
        String then = Check.told(x);
        String status = Check.status(x);
        x.steps(20);
        x.set(0, 1);
        x.give(0, 100);
        x.stop(false);
        x.stay(0, true);
        x.stay(3, false);
        x.forget();
        x.see(1, 1, 1);
        x.set(0, 60);
        x.see(1, 1, -1);
        for (int n = 0; n < 6; n++) {
            x.undo();
        }
        x.give(2, 1);
        due("restore", x.restore(), true);
        CHECK.due("as it was", Check.told(x), then);
        CHECK.due("STATUS as it was", Check.status(x), status);
        GivenMinutes like = busy();
        like.image();
        CHECK.due("ACTS as they were", Check.whole(x), Check.whole(like));
    }

    /** Forty ACTS and eight SEEN come back; the tape and the latest FAULT are no part of it. */
    private static void allOfTheImage() {
        GivenMinutes x = CHECK.quay("person 50 0 0 0;");
        for (int n = 1; n <= 45; n++) {
            x.set(0, n);
        }
        for (int n = 0; n < 8; n++) {
            x.see(0, n, 50 - n);
        }
        x.image();
        for (int n = 0; n < 30; n++) {
            x.undo();
        }
        for (int n = 0; n < 25; n++) {
            x.give(0, 1);
        }
        x.forget();
        x.feed(0, 0, 0, 0, 0);
        due("restore", x.restore(), true);
        due("the tape stays", x.count(11), 20);
        due("SEEN", x.count(10), 8);
        due("so as it was", x.fast(2), 1);
        due("ACTS", x.count(9), 40);
        due("none goes above 40", x.give(0, 1) + x.count(9), 51 + 40);
        due("UNDONE", x.undo(), 39);
        for (int n = 38; n >= 0; n--) {
            due("UNDONE", x.undo(), n);
            due("the WATCH", x.person(0, 1), n + 6);
        }
        due("none", x.undo(), -1);
        due("once more", x.restore(), true);
        due("ACTS", x.count(9), 40);
        due("a FAULT", x.quay(20), 1);
        due("STATUS", x.count(12), 1);
        due("restore", x.restore(), true);
        due("STATUS is of the image", x.count(12), 0);
        due("the FAULT's place is of the latest quay()", x.fault(), 0);
    }

    private static void inPlaceOfAnotherOne() {
        GivenMinutes x = CHECK.quay("person 50 0 0 0;");
        x.image();
        x.steps(1);
        x.image();
        x.steps(1);
        due("restore", x.restore(), true);
        due("the newer one", x.count(2), 1);
        due("UNDONE", x.undo(), 0);
        due("the STEP", x.count(2), 0);
        due("restore", x.restore(), true);
        due("it is as it was", x.count(2), 1);
        x.set(0, 60);
        x.image();
        x.set(0, 60);
        due("restore", x.restore(), true);
        due("STATUS", x.count(13), 1);
        due("GIVEN comes back, too", givenOfTheImage(), 7);
    }

    private static int givenOfTheImage() {
        GivenMinutes x = CHECK.quay("person 50 0 1 0;person 500 0 0 0;asks mean;says 7;");
        x.steps(1);
        x.image();
        x.steps(5);
        x.restore();
        return x.person(1, 5);
    }

    public static void main(String[] args) {
        howManySteps();
        stepsUpTo999();
        setWatches();
        givenByTheTown();
        clockIsStopped();
        oneStaysIn();
        fortyActs();
        refusedDropNone();
        theLastOneFirst();
        undoingLeavesTheRest();
        eightSeen();
        eachSeenCounts();
        asManyCallsAsThereMayBe();
        statuses();
        noImage();
        asTheImage();
        allOfTheImage();
        inPlaceOfAnotherOne();
        CHECK.end();
    }
}
