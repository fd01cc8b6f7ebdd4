/** Promises 5 to 41: ordinary inputs, the edges that the document names, and wrong inputs. */
public final class PromisesTest {
    private static final Check CHECK = new Check();
    private static final String WHARF =
        "corners 3;person 50 40 2 0 1;person 200 30 0 0;miser 100 59 1 0 2;person 5 0 3 1;clock 10;";

    private static GivenMinutes wharf() {
        return CHECK.quay(WHARF);
    }

    private static void due(String what, int got, int want) {
        CHECK.due(what, got, want);
    }

    private static void due(String what, boolean got, boolean want) {
        CHECK.due(what, got, want);
    }

    /** LEFT of all, one behind the other. */
    private static void left(String what, GivenMinutes x, int... want) {
        for (int p = 0; p < want.length; p++) {
            due(what + ": left of " + p, x.person(p, 0), want[p]);
        }
    }

    // ==== 5, 6

    private static void countAndPerson() {
        GivenMinutes x = wharf();
        int[] counts = {3, 4, 0, 10, 0, 15, 0, 355, 1, 0, 0, 0, 0, 0, 0};
        for (int what = 0; what < counts.length; what++) {
            due("count " + what, x.count(what), counts[what]);
        }
        CHECK.noSuch("count -1", () -> x.count(-1));
        CHECK.noSuch("count 15", () -> x.count(15));
        int[][] people = {{50, 40, 20, 2, 0, 0, 0, 0, 6}, {200, 30, 10, 0, 0, 0, 0, 0, 5},
            {100, 59, 39, 1, 0, 0, 1, 0, 3}, {5, 0, 40, 3, 1, 0, 0, 0, 0}};
        for (int p = 0; p < people.length; p++) {
            for (int what = 0; what < 9; what++) {
                due("person " + p + " " + what, x.person(p, what), people[p][what]);
            }
        }
        CHECK.noSuch("person 4", () -> x.person(4, 0));
        CHECK.noSuch("person -1", () -> x.person(-1, 0));
        CHECK.noSuch("person what 9", () -> x.person(0, 9));
        CHECK.noSuch("person what -1", () -> x.person(0, -1));
        x.stay(1, true);
        x.stay(3, true);
        due("who stays in", x.count(6), 10);
        due("one stays in", x.person(1, 7), 1);
        due("the others, staying in or not", x.person(0, 8), 6);
        due("companies, staying in or not", x.count(8), 1);
        x.steps(1);
        due("companies of the next step", x.count(8), 1);
        due("the corner of the next step", x.person(0, 4), 1);
        due("who is there then", x.person(0, 8), 8);
        GivenMinutes y = CHECK.quay("corners 4;person 0 0 0 3;person 0 0 0 3;person 0 0 0 1;person 0 0 0 1;person 1 0 0 0;");
        due("companies of spent ones", y.count(8), 2);
        due("who isn't spent", y.count(5), 16);
        due("a spent one is there", y.person(0, 8), 2);
    }

    // ==== A STEP (promise 7)

    private static void aStep() {
        GivenMinutes x = wharf();
        due("steps", x.steps(1), 1);
        left("step 1", x, 59, 189, 99, 4);
        due("clock", x.count(3), 15);
        due("given", x.person(1, 5), 10);
        due("steps", x.steps(1), 2);
        left("step 2, one spent at once", x, 62, 188, 98, 0);
        due("given, all that was left", x.person(3, 5), 4);
        due("alive", x.count(5), 7);
        due("steps", x.steps(3), 5);
        left("step 5", x, 89, 155, 95, 0);
        due("given in all", x.person(1, 5), 40);
        due("left of all", x.count(7), 339);
        due("clock", x.count(3), 35);
        x.steps(5);
        due("clock goes round", x.count(3), 0);
        GivenMinutes y = CHECK.quay("person 5 30 0 0;person 10 30 0 0;clock 40;");
        y.steps(1);
        left("who is spent in the step doesn't ask", y, 14, 0);
        GivenMinutes z = CHECK.quay("person 60 31 0 0;person 99 30 0 0;person 99 35 0 0;person 61 30 0 0;");
        z.steps(1);
        left("60 or less ask; of like ones the least", z, 59, 98, 98, 60);
        GivenMinutes w = CHECK.quay("person 60 31 0 0;person 99 33 0 0;person 99 35 0 0;");
        w.steps(1);
        left("the least of like ones gives", w, 62, 95, 98);
        GivenMinutes v = CHECK.quay("person 61 0 0 0;person 60 0 0 0;");
        due("61 don't ask", v.asked(0, 1), -1);
        due("60 ask", v.asked(1, 1), 0);
    }

    private static void stepsRefused() {
        GivenMinutes x = new GivenMinutes();
        due("0 steps", x.steps(0), -1);
        due("21 steps", x.steps(21), -1);
        due("-1 steps", x.steps(-1), -1);
        due("most steps", x.steps(Integer.MAX_VALUE), -1);
        due("refused", x.count(13), 4);
        due("no act", x.count(9), 0);
        for (int k = 1; k < 50; k++) {
            due("steps", x.steps(20), 20 * k);
        }
        due("above 999", x.steps(20), -1);
        due("not above 999", x.steps(19), 999);
        due("above 999", x.steps(1), -1);
        due("refused", x.count(13), 6);
        due("at most 40 acts", x.count(9), 40);
        due("undo goes on", x.undo(), 39);
        due("the step ahead of it", x.count(2), 980);
    }

    private static void staysInAndMisers() {
        GivenMinutes x = wharf();
        x.stay(1, true);
        x.steps(1);
        // The miser shows 39: 2, less a MEAN of 1.
        left("who stays in isn't asked", x, 50, 199, 98, 4);
        GivenMinutes y = wharf();
        y.stay(0, true);
        y.steps(1);
        left("who stays in doesn't ask", y, 49, 199, 99, 4);
        GivenMinutes m = CHECK.quay("person 10 0 0 0;miser 500 30 1 0;clock 50;says 40;");
        due("a miser says the same always", m.robbed(1, 0, 1), 2);
        GivenMinutes n = CHECK.quay("person 10 0 0 0;miser 500 30 9 0;clock 59;");
        due("not below 0", n.robbed(1, 0, 1), 0);
        due("asked all the same", n.asked(0, 1), 1);
        GivenMinutes o = CHECK.quay("person 10 0 0 0;miser 500 30 0 0;clock 14;");
        due("cut down", o.robbed(1, 0, 1), 0);
        due("cut down then", o.robbed(1, 0, 2), 1);
    }

    private static void bounds() {
        GivenMinutes x = CHECK.quay("person 990 30 0 0;person 999 30 0 0;asks 1;says 59;");
        due("passed, kept or not", x.later(1, 4), 118);
        x.steps(1);
        left("999 at most", x, 939, 998);
        due("given", x.person(1, 5), 59);
        for (int k = 0; k < 9; k++) {
            x.steps(20);
        }
        due("given at most 9999", x.person(0, 5), 9999);
        due("passed goes on", x.later(1, 4), 118);
        due("given then", x.then(0, 10, 1), 9999);
    }

    // ==== EXPR

    /** How many minutes are said by a rule. */
    private static int said(String expr) {
        return CHECK.quay("person 10 30 0 0;person 500 33 4 0;says " + expr + ";").robbed(1, 0, 1);
    }

    private static boolean asks(String expr) {
        return CHECK.quay("person 10 30 0 0;person 500 33 4 1;person 500 33 4 0;asks " + expr + ";").asked(0, 1) == 2;
    }

    private static void exprs() {
        String[] texts = {"5", "59", "60", "0-5", "7-2-1", "20/3/2", "2+3*4", "(2+3)*4", "not 1<2", "not 5", "not 0",
            "not not 7", "5 and 7", "5 or 7", "1 or 0 and 0", "0 and 0 or 1", "3<4", "4<3", "4=4", "4=5", "1<2 and 2<3",
            "(0-7)/2+4", "5/0", "5/0+1", "9/(4-4)+2", "9999*9999*9999", "0-9999*9999*9999", "8192*8192*32/(0-1)<0",
            "8192*8192*32-1<0", "left", "left-450", "shown", "mean", "company", "step", "theirs", "given", "theirs*2+mean",
            "2*3<7=1", "0010", "5 or 0", "1=1 and 5", "(((((3)))))"};
        int[] want = {5, 59, 59, 0, 4, 3, 14, 20, 0, 0, 1, 1, 1, 1, 1, 1, 1, 0, 1, 0, 1, 1, 0, 1, 2, 0, 59, 1, 0, 59, 50, 3, 4, 1, 0,
            10, 0, 24, -1, 10, 1, 1, 3};
        for (int i = 0; i < texts.length; i++) {
            if (want[i] >= 0) {
                due("says " + texts[i], said(texts[i]), want[i]);
            }
        }
        due("asks 1", asks("1"), true);
        due("asks 0", asks("0"), false);
        due("asks below 0", asks("0-1"), false);
        due("asks 9999*9999*9999", asks("9999*9999*9999"), false);
        due("asks left=10", asks("left=10 and shown=0 and mean=0 and company=1 and step=0"), true);
        GivenMinutes x = CHECK.quay("person 10 30 0 0;person 500 30 0 0;person 7 30 0 0;person 0 30 0 0;"
            + "asks left=10;says company*10;");
        x.stay(2, true);
        due("company of a value: staying in, too; not spent", x.robbed(1, 0, 1), 20);
        GivenMinutes y = CHECK.quay("person 20 30 0 0;person 80 30 4 0;person 70 30 0 0;asks company+step;says given+theirs+mean;");
        y.steps(1);
        left("values in the midst of a step", y, 43, 69, 55);
        GivenMinutes z = CHECK.quay("person 10 30 0 0;person 500 30 0 0;asks left<400;says step;");
        z.steps(7);
        due("the step that is", z.person(1, 5), 21);
    }

    // ==== 8 to 12

    private static void acts() {
        GivenMinutes x = wharf();
        due("set", x.set(0, 59), 40);
        due("set so", x.set(0, 59), -1);
        due("set 60", x.set(0, 60), -1);
        due("set -1", x.set(0, -1), -1);
        due("set 0", x.set(0, 0), 59);
        CHECK.noSuch("set nobody", () -> x.set(4, 60));
        due("shown", x.person(0, 2), 40);
        due("give", x.give(3, 100), 105);
        due("give 0", x.give(3, 0), -1);
        due("give 101", x.give(3, 101), -1);
        CHECK.noSuch("give nobody", () -> x.give(-1, 0));
        due("refused", x.count(13), 5);
        due("stop", x.stop(true), true);
        due("stop again", x.stop(true), false);
        due("stopped", x.count(4), 1);
        due("stay", x.stay(2, true), true);
        due("stay again", x.stay(2, true), false);
        due("stay not, as it is", x.stay(1, false), false);
        CHECK.noSuch("stay nobody", () -> x.stay(4, true));
        due("stay no longer", x.stay(2, false), true);
        due("nobody stays in", x.count(6), 0);
        due("undo it", x.undo(), 5);
        due("stays in", x.count(6), 4);
        due("refused", x.count(13), 8);
        due("acts", x.count(9), 5);
        x.steps(20);
        due("clock stands", x.count(3), 10);
        due("go again", x.stop(false), true);
        x.steps(1);
        due("clock goes", x.count(3), 15);
    }

    private static void undoing() {
        GivenMinutes x = wharf();
        x.steps(2);
        x.give(3, 7);
        due("not spent any more", x.count(5), 15);
        x.set(1, 1);
        x.stop(true);
        x.stay(0, true);
        x.steps(20);
        due("undo steps", x.undo(), 5);
        due("step", x.count(2), 2);
        due("undo stay", x.undo(), 4);
        due("nobody stays in", x.count(6), 0);
        due("undo stop", x.undo(), 3);
        due("not stopped", x.count(4), 0);
        due("undo set", x.undo(), 2);
        due("watch", x.person(1, 1), 30);
        due("undo give", x.undo(), 1);
        due("spent", x.count(5), 7);
        due("undo steps", x.undo(), 0);
        left("as told", x, 50, 200, 100, 5);
        due("given as told", x.person(1, 5), 0);
        due("clock as told", x.count(3), 10);
        due("nothing to undo", x.undo(), -1);
        due("that is not refused", x.count(13), 0);
        GivenMinutes y = CHECK.quay("person 990 1 1 1;");
        due("999 at most", y.give(0, 100), 999);
        due("all as it was", y.give(0, 1), 999);
        due("an act all the same", y.count(9), 2);
        for (int k = 0; k < 43; k++) {
            y.set(0, 2 + k);
        }
        due("40 acts", y.count(9), 40);
        for (int k = 39; k >= 0; k--) {
            due("undo", y.undo(), k);
        }
        due("the 41st is lost", y.undo(), -1);
        due("as it was then", y.person(0, 1), 4);
    }

    // ==== 13 to 18

    private static void onlySteps() {
        GivenMinutes x = wharf();
        int[][] left = {{50, 200, 100, 5}, {59, 189, 99, 4}, {62, 188, 98, 0}, {61, 187, 97, 0}, {60, 186, 96, 0}, {89, 155, 95, 0}};
        for (int k = 0; k < left.length; k++) {
            for (int p = 0; p < 4; p++) {
                due("then " + p + " " + k, x.then(p, k, 0), left[k][p]);
                due("gained " + p + " " + k, x.gained(p, k), left[k][p] - left[0][p]);
            }
        }
        due("given then", x.then(1, 4, 1), 10);
        due("given then", x.then(1, 5, 1), 40);
        due("nothing went by", x.count(2), 0);
        CHECK.noSuch("then nobody", () -> x.then(4, 61, 0));
        CHECK.noSuch("then what 2", () -> x.then(0, 61, 2));
        CHECK.noSuch("then what -1", () -> x.then(0, 1, -1));
        CHECK.illegal("then 61", () -> x.then(0, 61, 0));
        CHECK.illegal("then -1", () -> x.then(0, -1, 1));
        CHECK.noSuch("gained nobody", () -> x.gained(4, 61));
        CHECK.illegal("gained 61", () -> x.gained(0, 61));
        CHECK.illegal("gained -1", () -> x.gained(0, -1));
        int[] asked = {1, 3, -1, -1, 1};
        for (int k = 1; k <= asked.length; k++) {
            due("asked " + k, x.asked(0, k), asked[k - 1]);
            due("asked by 1 in " + k, x.asked(1, k), -1);
        }
        CHECK.noSuch("asked nobody", () -> x.asked(-1, 0));
        CHECK.illegal("asked 0", () -> x.asked(0, 0));
        CHECK.illegal("asked 61", () -> x.asked(0, 61));
        due("asked 60", x.asked(3, 60), -1);
        due("spent", x.spent(3), 2);
        CHECK.noSuch("spent nobody", () -> x.spent(4));
        GivenMinutes y = CHECK.quay("person 0 0 0 0;person 60 0 0 1;person 61 0 0 2;");
        due("spent now", y.spent(0), 0);
        due("spent behind 60", y.spent(1), 60);
        due("not spent", y.spent(2), -1);
    }

    private static void whatIsLater() {
        GivenMinutes x = wharf();
        int[][] want = {{15, 7, 7}, {1, 1, 1}, {3, 0, 2}, {355, 348, 339}, {0, 14, 44}};
        int[] steps = {0, 2, 5};
        for (int what = 0; what < 5; what++) {
            for (int i = 0; i < 3; i++) {
                if (what != 2 || i < 2) {
                    due("later " + steps[i] + " " + what, x.later(steps[i], what), want[what][i]);
                }
            }
        }
        due("poorest behind 5", x.later(5, 2), 0);
        CHECK.noSuch("later what 5", () -> x.later(61, 5));
        CHECK.noSuch("later what -1", () -> x.later(0, -1));
        CHECK.illegal("later 61", () -> x.later(61, 4));
        CHECK.illegal("later -1", () -> x.later(-1, 0));
        GivenMinutes y = CHECK.quay("person 5 0 0 0;person 9 0 0 1;person 9 0 0 2;person 5 0 0 0;asks 0;");
        due("richest of like ones", y.later(1, 1), 1);
        due("poorest of like ones", y.later(1, 2), 0);
        due("none is richest", y.later(9, 1), -1);
        due("none is poorest", y.later(9, 2), -1);
        due("nobody has any", y.later(9, 3), 0);
        due("busiest", x.busiest(5), 1);
        due("busiest of like ones", x.busiest(2), 1);
        due("busiest by 0 times", y.busiest(60), 0);
        due("busiest of nobody", new GivenMinutes().busiest(1), -1);
        CHECK.illegal("busiest 0", () -> x.busiest(0));
        CHECK.illegal("busiest 61", () -> x.busiest(61));
        due("robbed", x.robbed(1, 0, 5), 40);
        due("robbed 1", x.robbed(1, 0, 1), 10);
        due("robbed 0", x.robbed(1, 0, 0), 0);
        due("robbed 3", x.robbed(3, 0, 5), 4);
        due("robbed not", x.robbed(0, 1, 5), 0);
        due("robbed by oneself", x.robbed(1, 1, 5), 0);
        GivenMinutes z = CHECK.quay("person 0 0 0 1;".repeat(5) + "person 9 30 0 0;person 80 35 0 0;person 70 37 0 0;");
        due("6 gives 5", z.robbed(6, 5, 1), 5);
        due("not 7", z.robbed(7, 5, 1), 0);
        due("not the other way", z.robbed(5, 6, 1), 0);
        due("busiest is 6", z.busiest(1), 6);
        CHECK.noSuch("robbed nobody", () -> x.robbed(0, 4, 61));
        CHECK.noSuch("nobody robbed", () -> x.robbed(4, 0, 61));
        CHECK.illegal("robbed 61", () -> x.robbed(0, 1, 61));
        CHECK.illegal("robbed -1", () -> x.robbed(0, 1, -1));
    }

    // ==== 19 to 23

    private static void places() {
        GivenMinutes x = wharf();
        due("meet", x.meet(0, 3), 2);
        due("meet at once", x.meet(2, 1), 1);
        due("meet never", x.meet(1, 3), -1);
        due("meet oneself", x.meet(0, 0), -1);
        CHECK.noSuch("meet nobody", () -> x.meet(4, 4));
        CHECK.noSuch("meet nobody", () -> x.meet(0, -1));
        due("often", x.often(0, 1, 5), 3);
        due("often 3", x.often(0, 3, 5), 2);
        due("often oneself", x.often(0, 0, 60), 60);
        CHECK.noSuch("often nobody", () -> x.often(0, 4, 0));
        CHECK.illegal("often 0", () -> x.often(0, 0, 0));
        CHECK.illegal("often 61", () -> x.often(0, 1, 61));
        due("where", x.where(0, 2), 1);
        due("where at 60", x.where(2, 60), 2);
        CHECK.noSuch("where nobody", () -> x.where(4, 0));
        CHECK.illegal("where 0", () -> x.where(0, 0));
        CHECK.illegal("where 61", () -> x.where(0, 61));
        due("crowd", x.crowd(60), 1);
        due("watch", x.watch(1), 3);
        CHECK.illegal("crowd 0", () -> x.crowd(0));
        CHECK.illegal("crowd 61", () -> x.crowd(61));
        CHECK.illegal("watch 0", () -> x.watch(0));
        CHECK.illegal("watch 61", () -> x.watch(61));
        x.stay(1, true);
        x.steps(1);
        due("crowd then", x.crowd(60), 2);
        due("crowd in one", x.crowd(1), 1);
        due("watch all", x.watch(1), 7);
        due("watch two", x.watch(2), 3);
        due("meet then", x.meet(0, 3), 1);
        due("meet then", x.meet(0, 1), 2);
        due("where then", x.where(0, 1), 1);
        due("crowd of nobody", new GivenMinutes().crowd(60), 1);
        due("watch nobody", new GivenMinutes().watch(60), 0);
        GivenMinutes y = CHECK.quay("corners 4;person 1 0 0 1 3;");
        due("of as few the least", y.watch(2), 2);
        due("watch in one step", y.watch(1), 2);
        GivenMinutes z = CHECK.quay("corners 4;person 0 0 0 3;person 1 0 0 1 2;person 1 0 0 0 0 0 0 0 2;");
        due("spent ones, too", z.watch(6), 12);
        due("not so late", z.watch(5), 11);
    }

    // ==== 24 to 26

    private static void whatToDo() {
        GivenMinutes x = wharf();
        due("to set", x.toSet(1, 1, 0), 20);
        due("to set: left", x.toSet(1, 1, 1), 199);
        due("to set, all alike", x.toSet(0, 1, 0), 0);
        due("to set, all alike: left", x.toSet(0, 1, 1), 59);
        CHECK.noSuch("to set nobody", () -> x.toSet(4, 0, 0));
        CHECK.noSuch("to set what", () -> x.toSet(0, 0, 2));
        CHECK.illegal("to set 0", () -> x.toSet(0, 0, 0));
        CHECK.illegal("to set 61", () -> x.toSet(0, 61, 1));
        due("to stay", x.toStay(1, 1), 0);
        due("to stay: none", x.toStay(0, 1), -1);
        CHECK.noSuch("to stay nobody", () -> x.toStay(4, 0));
        CHECK.illegal("to stay 0", () -> x.toStay(0, 0));
        CHECK.illegal("to stay 61", () -> x.toStay(0, 61));
        GivenMinutes y = CHECK.quay("person 10 30 0 0;person 500 30 0 0;person 10 30 0 0;clock 10;");
        due("oneself", y.toStay(1, 1), 1);
        y.stay(0, true);
        due("oneself, of like ones the least", y.toStay(1, 1), 1);
        y.stay(2, true);
        due("all who rob stay in", y.toStay(1, 1), -1);
        due("to last", x.toLast(2, 3), 1);
        due("to last 3", x.toLast(3, 1), 2);
        CHECK.noSuch("to last nobody", () -> x.toLast(4, 0));
        CHECK.illegal("to last 0", () -> x.toLast(0, 0));
        CHECK.illegal("to last 61", () -> x.toLast(0, 61));
        GivenMinutes z = CHECK.quay("person 5 0 0 0;person 5 0 1 0;asks mean;says 59;");
        due("to last 1", z.toLast(0, 1), 61);
        due("to last 16", z.toLast(0, 16), 961);
        due("to last 17", z.toLast(0, 17), -1);
        due("left stays", z.person(0, 0), 5);
        GivenMinutes w = CHECK.quay("person 5 0 0 0;person 5 0 1 0;asks mean;says 59-(step=16)*22;");
        due("to last: just 999", w.toLast(0, 17), 999);
    }

    // ==== 27, 28

    private static void couples() {
        GivenMinutes x = wharf();
        due("pairs", x.pairs(0), 1);
        due("pairs differ", x.pairs(1), 50);
        int[] with = {2, -1, 0, -1};
        for (int p = 0; p < 4; p++) {
            due("pair " + p, x.pair(p), with[p]);
        }
        CHECK.noSuch("pairs what", () -> x.pairs(2));
        CHECK.noSuch("pairs what", () -> x.pairs(-1));
        CHECK.noSuch("pair nobody", () -> x.pair(4));
        x.steps(1);
        due("pairs then", x.pair(0), 3);
        GivenMinutes y = CHECK.quay("person 10 0 0 0;person 40 0 0 0;person 30 0 0 0;person 20 0 0 0;");
        due("two pairs", y.pairs(0), 2);
        due("two pairs differ", y.pairs(1), 20);
        due("0 with", y.pair(0), 3);
        due("1 with", y.pair(1), 2);
        GivenMinutes z = CHECK.quay("person 5 0 0 0;".repeat(8));
        for (int p = 0; p < 8; p++) {
            due("like ones", z.pair(p), p ^ 1);
        }
        GivenMinutes w = CHECK.quay("person 10 0 0 0;person 20 0 0 0;person 30 0 0 0;");
        due("with nobody behind all", w.pair(0), 1);
        due("with nobody", w.pair(2), -1);
        w.stay(0, true);
        due("staying in, too", w.pair(0), 1);
        GivenMinutes v = CHECK.quay("person 0 0 0 0;person 99 0 0 0;");
        due("most couples first; spent ones, too", v.pairs(0), 1);
        due("how much they differ", v.pairs(1), 99);
    }

    // ==== 30 to 32

    private static void watches() {
        GivenMinutes x = wharf();
        due("shows", x.shows(0, 1), 20);
        due("shows 3", x.shows(0, 3), 30);
        due("shows 9", x.shows(0, 9), 0);
        due("shows 60", x.shows(0, 60), 15);
        CHECK.noSuch("shows nobody", () -> x.shows(4, 0));
        CHECK.illegal("shows 0", () -> x.shows(0, 0));
        CHECK.illegal("shows 61", () -> x.shows(0, 61));
        due("silent", x.silent(5), 2);
        due("silent 1", x.silent(1), 0);
        CHECK.illegal("silent 0", () -> x.silent(0));
        CHECK.illegal("silent 61", () -> x.silent(61));
        due("silent without people", new GivenMinutes().silent(60), 60);
        x.stop(true);
        due("shows when stopped", x.shows(0, 9), 20);
        due("alike", x.alike(), 0);
        due("three alike", CHECK.quay("person 1 7 0 0;person 0 7 0 1;person 9 8 0 0;person 3 7 0 2;").alike(), 3);
        GivenMinutes y = CHECK.quay("person 9 30 0 0;person 99 30 0 0;");
        due("who gives 0 is asked, too", y.silent(1), 0);
    }

    // ==== 33 to 36

    private static void seen() {
        GivenMinutes x = wharf();
        due("fast without", x.fast(0), 236);
        due("first", x.fast(1), 0);
        due("see", x.see(0, 1, 60), 1);
        due("fast", x.fast(0), 1);
        due("the first", x.fast(1), 131);
        due("not without", x.fast(2), 0);
        due("look", x.look(0), 0);
        due("look: one number", x.look(1), 1);
        due("see", x.see(3, 0, 6), 2);
        due("none fast", x.fast(0), 0);
        due("no first", x.fast(1), -1);
        due("look at none", x.look(0), -1);
        due("look at none: 0", x.look(1), 0);
        x.forget();
        due("forgotten", x.count(10), 0);
        due("so without", x.fast(2), 1);
        due("see", x.see(0, 1, 59), 1);
        due("fast by others", x.fast(0), 177);
        due("so without", x.fast(2), 1);
        CHECK.noSuch("fast what", () -> x.fast(3));
        CHECK.noSuch("fast what", () -> x.fast(-1));
        CHECK.noSuch("look what", () -> x.look(2));
        CHECK.noSuch("look what", () -> x.look(-1));
        x.steps(1);
        due("from now on", x.fast(2), 0);
    }

    private static void seeRefused() {
        GivenMinutes x = wharf();
        CHECK.noSuch("see nobody", () -> x.see(4, 21, 0));
        due("not refused", x.count(14), 0);
        due("see 21", x.see(0, 21, 0), -1);
        due("see -1", x.see(0, -1, 0), -1);
        due("see 1000", x.see(0, 0, 1000), -1);
        due("see below 0", x.see(0, 0, -1), -1);
        due("refused", x.count(14), 4);
        for (int n = 1; n <= 8; n++) {
            due("see", x.see(0, 20, 999), n);
        }
        due("the ninth", x.see(0, 20, 999), -1);
        due("refused", x.count(14), 5);
        due("seen", x.count(10), 8);
        x.forget();
        due("0 left", x.see(3, 0, 0), 1);
        due("999 left, behind 20", x.see(3, 20, 999), 2);
    }

    private static void lookNext() {
        GivenMinutes x = CHECK.quay("person 10 30 1 0;person 500 30 0 0;asks mean and step<1;");
        due("like ones: the least", x.look(0), 0);
        due("how many", x.look(1), 60);
        GivenMinutes y = CHECK.quay("person 999 30 1 0;person 500 30 0 0;asks mean and step<1;");
        due("who is told of most", y.look(0), 1);
        due("how many", y.look(1), 60);
        y.see(1, 20, 999);
        due("without any", y.look(0), -1);
        GivenMinutes z = CHECK.quay("person 10 30 1 0;person 500 30 0 0;asks mean and step=4;");
        due("behind 5 steps", z.look(1), 60);
        GivenMinutes w = CHECK.quay("person 10 30 1 0;person 500 30 0 0;asks mean and step=5;");
        due("not behind 6", w.look(1), 1);
        due("another one than one has", CHECK.quay("person 9 9 0 0;").fast(0), 59);
        due("the first isn't one's own", CHECK.quay("person 9 0 0 0;").fast(1), 1);
    }

    // ==== 37 to 39

    private static void fogAndGame() {
        GivenMinutes x = wharf();
        due("fog", x.fog(3, 1, 5), 0);
        due("fog of 2", x.fog(3, 2, 5), 50);
        due("no fog", x.fog(3, 2, 0), 100);
        due("fog always", x.fog(3, 2, 10), 0);
        due("fog of 3 tenths", x.fog(3, 2, 3), 70);
        due("fog to the end", x.fog(3, 5, 10), 100000);
        CHECK.noSuch("fog nobody", () -> x.fog(4, 0, 0));
        CHECK.illegal("fog of 0", () -> x.fog(0, 0, 5));
        CHECK.illegal("fog of 6", () -> x.fog(0, 6, 5));
        CHECK.illegal("fog -1", () -> x.fog(0, 1, -1));
        CHECK.illegal("fog 11", () -> x.fog(0, 1, 11));
        GivenMinutes y = CHECK.quay("person 40 50 0 0;person 100 50 0 0;");
        due("one rests", y.game(0, 1, 0), 1);
        due("it hides", y.game(0, 1, 1), 1);
        due("seen from the other side", y.game(1, 0, 1), 10);
        GivenMinutes z = CHECK.quay("person 40 50 0 0;person 100 50 0 1;");
        due("apart", z.game(0, 1, 0), 1);
        due("apart nobody hides", z.game(0, 1, 1), 0);
        GivenMinutes w = CHECK.quay("person 10 30 1 0;person 100 30 0 0;asks mean and step<1;says 8;");
        due("as much by hiding: two rest", w.game(0, 1, 0), 2);
        due("the first of two", w.game(0, 1, 1), 0);
        due("two rest, from the other side", w.game(1, 0, 0), 2);
        GivenMinutes v = CHECK.quay("person 10 30 1 0;person 100 30 0 0;asks mean and step=5;says 40;");
        due("six steps", v.game(0, 1, 1), 1);
        GivenMinutes u = CHECK.quay("person 10 30 1 0;person 100 30 0 0;asks mean and step=6;says 40;");
        due("not seven", u.game(0, 1, 1), 0);
        CHECK.noSuch("game nobody", () -> x.game(4, 4, 0));
        CHECK.noSuch("game nobody", () -> x.game(0, 4, 0));
        CHECK.noSuch("game what", () -> x.game(0, 0, 2));
        CHECK.illegal("game of one", () -> x.game(0, 0, 1));
        due("nobody stays in", y.count(6), 0);
        due("mean as it was", y.person(0, 3), 0);
    }

    /** One STEP of YEARS, done by ACTS on a second object. */
    private static void oneYear(int seed) {
        String people = "person 40 50 0 0;person 990 41 0 0;person 100 30 0 0;";
        int s = seed * 1103515245 + 12345;
        int drawn = (s >> 16 & 0x7fff) % 6;
        s = s * 1103515245 + 12345;
        int second = s >> 16 & 0x7fff;
        s = s * 1103515245 + 12345;
        int third = s >> 16 & 0x7fff;
        GivenMinutes y = CHECK.quay(people + "clock " + (drawn == 3 ? second % 60 : 17) + ";");
        if (drawn == 0) {
            y.set(second % 3, third % 60);
        } else if (drawn == 1) {
            y.stay(second % 3, true);
        } else if (drawn == 2) {
            y.give(second % 3, 20);
        }
        GivenMinutes x = CHECK.quay(people + "clock 17;");
        due("minutes of seed " + seed, x.years(seed, 1, 0), y.later(1, 4));
        due("left of seed " + seed, x.years(seed, 1, 1), y.later(1, 3));
        due("alive of seed " + seed, x.years(seed, 1, 2), y.later(1, 0));
        if (drawn == 1) {
            x.stay(second % 3, true);
            y.stay(second % 3, false);
            due("stays in no more by seed " + seed, x.years(seed, 1, 1), y.later(1, 3));
        }
    }

    private static void yearsBySeed() {
        for (int seed = -60; seed < 60; seed++) {
            oneYear(seed * 7919);
        }
        GivenMinutes x = wharf();
        due("no steps: minutes", x.years(5, 0, 0), 0);
        due("no steps: left", x.years(5, 0, 1), 355);
        due("no steps: alive", x.years(5, 0, 2), 15);
        due("without people", new GivenMinutes().years(5, 60, 1), 0);
        CHECK.noSuch("years what", () -> x.years(5, 61, 3));
        CHECK.noSuch("years what", () -> x.years(5, 0, -1));
        CHECK.illegal("years 61", () -> x.years(5, 61, 0));
        CHECK.illegal("years -1", () -> x.years(5, -1, 0));
        x.years(5, 60, 1);
        due("nothing went by", x.count(2), 0);
    }

    // ==== 40, 41

    private static void images() {
        GivenMinutes x = wharf();
        due("no image", x.restore(), false);
        x.steps(2);
        x.see(0, 1, 61);
        x.set(0, 60);
        x.image();
        x.undo();
        x.give(3, 50);
        x.stay(1, true);
        x.stop(true);
        x.set(2, 1);
        x.forget();
        x.set(0, 60);
        x.see(0, 21, 0);
        due("restore", x.restore(), true);
        int[] want = {3, 4, 2, 20, 0, 7, 0, 348, 1, 1, 1, 0, 0, 1, 0};
        for (int what = 0; what < want.length; what++) {
            due("restored count " + what, x.count(what), want[what]);
        }
        left("restored", x, 62, 188, 98, 0);
        due("watch", x.person(2, 1), 59);
        due("given", x.person(3, 5), 4);
        due("seen is so", x.fast(2), 1);
        due("undo behind it", x.undo(), 0);
        left("undone", x, 50, 200, 100, 5);
        x.forget();
        x.see(1, 3, 5);
        due("restore again", x.restore(), true);
        due("step", x.count(2), 2);
        due("seen as it was", x.fast(2), 1);
        x.forget();
        x.see(2, 0, 98);
        due("seen now", x.fast(2), 1);
        x.steps(1);
        x.image();
        x.steps(1);
        x.restore();
        due("the newer image", x.count(2), 3);
    }

    public static void main(String[] args) {
        countAndPerson();
        aStep();
        stepsRefused();
        staysInAndMisers();
        bounds();
        exprs();
        acts();
        undoing();
        onlySteps();
        whatIsLater();
        places();
        whatToDo();
        couples();
        watches();
        seen();
        seeRefused();
        lookNext();
        fogAndGame();
        yearsBySeed();
        images();
        CHECK.end();
    }
}
