/** Promises 5, 6 and 13 to 32 at each boundary of what they answer: first and last STEP, like ones, none, nobody. */
public final class QuestionEdgesTest {
    private static final Check CHECK = new Check();

    private static void due(String what, int got, int want) {
        CHECK.due(what, got, want);
    }

    /** Alone at a CORNER, one only grows older. */
    private static GivenMinutes alone(int left) {
        return CHECK.quay("person " + left + " 30 0 0;");
    }

    /** Whoever is mean asks in STEPS as told; the second one always gives 7. */
    private static GivenMinutes when(String told) {
        return CHECK.quay("person 200 30 1 0;person 999 30 0 0;asks mean and (" + told + ");says 7;");
    }

    // ==== 5, 6: who is where, whoever they are

    private static void companies() {
        for (int many = 0; many <= 8; many++) {
            String text = "corners 2;" + "person 1 0 0 1;".repeat(many);
            GivenMinutes x = CHECK.quay(text);
            due("one company of " + many, x.count(8), many < 2 ? 0 : 1);
            due("a couple more", many > 6 ? 2 : CHECK.quay(text + "person 0 0 0 0;person 0 0 0 0;").count(8), many < 2 ? 1 : 2);
            for (int p = 0; p < many; p++) {
                due("who is there, too", x.person(p, 8), (1 << many) - 1 & ~(1 << p));
                x.stay(p, true);
            }
            due("who STAYS IN counts", x.count(8), many < 2 ? 0 : 1);
            x.steps(1);
            due("who is SPENT counts", x.count(8), many < 2 ? 0 : 1);
            due("nobody is left", x.count(5), 0);
            due("all are there", many == 0 ? 0 : x.person(0, 8), many == 0 ? 0 : (1 << many) - 2);
        }
        GivenMinutes x = CHECK.quay("corners 4;" + "person 9 0 0 0;person 9 0 0 1;person 9 0 0 2;person 9 0 0 3;".repeat(2));
        due("companies at each CORNER", x.count(8), 4);
        for (int p = 0; p < 8; p++) {
            due("who is there, too", x.person(p, 8), 1 << (p ^ 4));
        }
        GivenMinutes y = CHECK.quay("corners 6;person 9 0 0 0 5;person 9 0 0 1 5;person 9 0 0 2 5;");
        due("no companies now", y.count(8), 0);
        due("alone", y.person(0, 8), 0);
        y.steps(1);
        due("in the STEP that comes", y.count(8), 1);
        due("the CORNER of the STEP that comes", y.person(2, 4), 5);
        due("with both", y.person(2, 8), 3);
    }

    // ==== 13, 29: THEN

    private static void behindSoMany() {
        GivenMinutes x = alone(70);
        int[] steps = {0, 1, 2, 59, 60};
        for (int n : steps) {
            due("then " + n, x.then(0, n, 0), 70 - n);
            due("gained " + n, x.gained(0, n), -n);
            due("given " + n, x.then(0, n, 1), 0);
            due("total " + n, x.later(n, 3), 70 - n);
            due("passed " + n, x.later(n, 4), 0);
        }
        due("not below 0", alone(30).then(0, 60, 0), 0);
        due("gained no less than all", alone(30).gained(0, 60), -30);
        due("gained nothing of nothing", alone(0).gained(0, 60), 0);
        for (int k = 0; k < 60; k += k == 1 ? 57 : 1) {
            GivenMinutes y = when("step=" + k);
            due("given behind " + k, y.then(1, k, 1), 0);
            due("given behind one more", y.then(1, k + 1, 1), 7);
            due("left behind " + k, y.then(0, k, 0), 200 - k);
            due("left behind one more", y.then(0, k + 1, 0), 200 - k - 1 + 7);
            due("gained behind one more", y.gained(0, k + 1), 7 - k - 1);
            due("passed behind " + k, y.later(k, 4), 0);
            due("passed behind one more", y.later(k + 1, 4), 7);
            due("robbed behind " + k, y.robbed(1, 0, k), 0);
            due("robbed behind one more", y.robbed(1, 0, k + 1), 7);
            due("asked in it", y.asked(0, k + 1), 1);
            due("asked ahead of it", k == 0 ? -1 : y.asked(0, k), -1);
            due("asked behind it", k == 59 ? -1 : y.asked(0, k + 2), -1);
            due("silent with it", y.silent(k + 1), k);
            due("silent ahead of it", k == 0 ? 0 : y.silent(k), k);
        }
        GivenMinutes z = when("step=10");
        z.steps(10);
        due("from now on: given", z.then(1, 1, 1), 7);
        due("from now on: asked", z.asked(0, 1), 1);
        z.steps(1);
        due("GIVEN already", z.then(1, 0, 1), 7);
        due("GIVEN already counts on", z.then(1, 60, 1), 7);
        due("gained is from now on", z.gained(0, 0), 0);
        due("PASSED is from now on", z.later(60, 4), 0);
        due("ROBBED is from now on", z.robbed(1, 0, 60), 0);
        due("SILENT is from now on", z.silent(60), 60);
    }

    // ==== 15, 16

    private static void spentAndAlive() {
        for (int left : new int[] {0, 1, 2, 59, 60}) {
            GivenMinutes x = alone(left);
            due("SPENT behind " + left, x.spent(0), left);
            due("not ahead of it", left == 0 ? 1 : x.later(left - 1, 0), 1);
            due("not ALIVE then", x.later(left, 0), 0);
            due("nobody is RICHEST", x.later(left, 1), -1);
            due("nobody is POOREST", x.later(left, 2), -1);
        }
        due("not within 60", alone(61).spent(0), -1);
        due("ALIVE behind 60", alone(61).later(60, 0), 1);
        due("never", alone(999).spent(0), -1);
        GivenMinutes y = CHECK.quay("person 9 30 1 0;person 5 30 0 0;asks mean and step=2;says 59;");
        due("SPENT at once, by all that are LEFT", y.spent(1), 3);
        due("spent now", CHECK.quay("person 9 30 0 0;person 0 30 0 0;").spent(1), 0);
        GivenMinutes z = CHECK.quay("person 5 0 0 0;person 0 0 0 0;person 7 0 0 0;person 5 0 0 0;person 7 0 0 0;asks 0;");
        due("of like ones the least RICHEST", z.later(0, 1), 2);
        due("of like ones the least POOREST, not who is SPENT", z.later(0, 2), 0);
        due("ALIVE", z.later(0, 0), 1 + 4 + 8 + 16);
        due("TOTAL", z.later(0, 3), 24);
        due("behind 4", 100 * z.later(4, 1) + z.later(4, 2), 200);
        due("behind 5 they are SPENT", 100 * z.later(5, 1) + z.later(5, 2), 202);
        due("ALIVE behind 5", z.later(5, 0), 4 + 16);
        due("TOTAL behind 5", z.later(5, 3), 4);
        due("TOTAL behind 7", z.later(7, 3), 0);
        due("POOREST of the richest", CHECK.quay("person 0 0 0 0;person 999 0 0 0;person 999 0 0 0;").later(0, 2), 1);
        due("POOREST by one", CHECK.quay("person 999 0 0 0;person 998 0 0 0;person 0 0 0 0;").later(0, 2), 1);
        due("RICHEST of the poorest", CHECK.quay("person 0 0 0 0;person 1 0 0 0;person 1 0 0 0;").later(0, 1), 1);
        GivenMinutes w = CHECK.quay("person 998 30 1 0;person 999 30 0 0;asks mean and step<1;says 59;");
        due("TOTAL is what is LEFT", w.later(1, 3), 998 + 939);
        due("PASSED is what was given, kept or not", w.later(1, 4), 59);
        due("ROBBED, too", w.robbed(1, 0, 1), 59);
        due("the most of all", CHECK.quay("person 999 0 0 0;".repeat(8)).later(0, 3), 7992);
    }

    // ==== 17, 18, 14

    private static void mostOftenAsked() {
        String text = "person 999 30 1 0;person 999 30 2 0;asks mean=1 and step<30 or mean=2 and 29<step;says 0;";
        GivenMinutes x = CHECK.quay(text);
        due("in one STEP", x.busiest(1), 1);
        due("in 30 STEPS", x.busiest(30), 1);
        due("30 against 29", x.busiest(59), 1);
        due("of like ones the least", x.busiest(60), 0);
        GivenMinutes y = CHECK.quay("person 5 30 0 0;person 5 30 0 1;person 5 30 0 1;asks left=5 and mean;");
        due("by 0 times, too", y.busiest(1), 0);
        due("by 0 times, too", y.busiest(60), 0);
        due("nobody", new GivenMinutes().busiest(1), -1);
        due("nobody", new GivenMinutes().busiest(60), -1);
        GivenMinutes z = CHECK.quay("person 0 30 0 0;person 5 30 1 1;person 5 30 0 1;asks mean;says 0;");
        due("who gives 0 is asked, too", z.busiest(1), 2);
        due("who alone is asked", CHECK.quay("person 5 30 1 0;".repeat(7) + "person 99 30 0 0;asks mean;says 0;").busiest(1), 7);
        // Asked twice for little is more often than once for much.
        GivenMinutes w = CHECK.quay("corners 2;person 9 30 1 0;person 9 30 1 0;person 99 30 0 0;person 9 30 1 1;person 99 30 0 1;"
            + "asks mean;says 1+50*(company=1);");
        due("how often, not how much", w.busiest(1), 2);
        due("how much", w.robbed(4, 3, 1), 51);
        due("little", w.robbed(2, 0, 1) + w.robbed(2, 1, 1), 2);
    }

    private static void robbedByWhom() {
        GivenMinutes x = CHECK.quay("person 10 30 1 0;person 20 30 1 0;person 500 30 0 0;asks mean;says theirs;");
        due("of the first one", x.robbed(2, 0, 1), 10);
        due("of the second one", x.robbed(2, 1, 1), 20);
        due("not the other way", x.robbed(0, 2, 60), 0);
        due("of one another nothing", x.robbed(0, 1, 1) + x.robbed(1, 0, 1), 0);
        due("of oneself", x.robbed(2, 2, 60), 0);
        due("in no STEPS", x.robbed(2, 0, 0), 0);
        due("all that is LEFT", CHECK.quay("person 10 30 1 0;person 5 30 0 0;asks mean;says 59;").robbed(1, 0, 60), 5);
        GivenMinutes y = CHECK.quay("person 999 30 1 0;".concat("person 999 30 0 0;").repeat(4) + "asks mean;says 1;");
        int all = 0;
        for (int p = 0; p < 8; p++) {
            for (int q = 0; q < 8; q++) {
                all += y.robbed(p, q, 10);
            }
        }
        due("all of them together", all, y.later(10, 4));
        due("PASSED", all, 40);
    }

    // ==== 19 to 23

    /** Both are at CORNER 1 in STEPS 29, 59 .. alone. */
    private static GivenMinutes seldom() {
        return CHECK.quay("corners 4;person 5 0 0 0 0 0 0 1;person 5 0 0 2 2 2 2 2 1;");
    }

    private static void meetAndOften() {
        GivenMinutes x = seldom();
        due("MEET in 30", x.meet(0, 1), 30);
        due("either way", x.meet(1, 0), 30);
        due("OFTEN in 1", x.often(0, 1, 1), 0);
        due("OFTEN in 29", x.often(0, 1, 29), 0);
        due("OFTEN in 30", x.often(0, 1, 30), 1);
        due("OFTEN in 59", x.often(0, 1, 59), 1);
        due("OFTEN in 60", x.often(1, 0, 60), 2);
        due("both are one", x.meet(0, 0), -1);
        due("both are one: in 1", x.often(1, 1, 1), 1);
        due("both are one: in all", x.often(1, 1, 60), 60);
        x.steps(20);
        x.steps(9);
        due("MEET in the STEP that comes", x.meet(0, 1), 1);
        due("OFTEN in it", x.often(0, 1, 1), 1);
        x.stay(0, true);
        due("STAYING IN, and SPENT", x.meet(0, 1) + x.count(5), 1);
        x.steps(1);
        due("MEET in 30 again", x.meet(0, 1), 30);
        due("never", CHECK.quay("person 9 0 0 0 1;person 9 0 0 1 0;").meet(0, 1), -1);
        due("in none", CHECK.quay("person 9 0 0 0 1;person 9 0 0 1 0;").often(0, 1, 60), 0);
        GivenMinutes y = CHECK.quay("person 9 0 0 0 1;person 9 0 0 1 1 0;");
        due("in the second", y.meet(0, 1), 2);
        due("in all", y.often(0, 1, 60), 30);
    }

    private static void crowds() {
        GivenMinutes x = seldom();
        due("of 1", x.crowd(1), 1);
        due("of 29, all alike", x.crowd(29), 1);
        due("of 30", x.crowd(30), 30);
        due("of 59", x.crowd(59), 30);
        due("of 60 the first of two", x.crowd(60), 30);
        x.steps(20);
        x.steps(10);
        due("SPENT or not", x.crowd(30), 30);
        // Three at one CORNER by WALKS of 4, 5 and 6 CORNERS: in STEP 59 alone; two of them from STEP 11 on.
        GivenMinutes y = CHECK.quay("corners 5;person 5 0 0 0 0 0 1;person 5 0 0 2 2 2 2 1;person 5 0 0 3 3 3 3 3 1;");
        due("two of three", y.crowd(59), 12);
        due("two of three not yet", y.crowd(11), 1);
        due("three in 60", y.crowd(60), 60);
        y.stay(1, true);
        due("STAYING IN or not", y.crowd(60), 60);
        y.steps(1);
        due("from now on", y.crowd(59), 59);
        due("from now on", y.crowd(60), 59);
        due("nobody", new GivenMinutes().crowd(1), 1);
        due("nobody", new GivenMinutes().crowd(60), 1);
        due("one CORNER counts, not all", CHECK.quay("person 5 0 0 0 0;person 5 0 0 0 1;person 5 0 0 2 1;person 5 0 0 2 1;").crowd(2), 2);
    }

    private static void whereOneIs() {
        GivenMinutes x = CHECK.quay("corners 6;person 5 0 0 0 1 2 3 4 5;person 5 0 0 5 3 1 0 2;person 5 0 0 4;");
        int[] second = {5, 3, 1, 0, 2};
        for (int step = 0; step < 13; step++) {
            for (int k : new int[] {1, 2, 5, 6, 7, 59, 60}) {
                due("WHERE the first is", x.where(0, k), (step + k - 1) % 6);
                due("WHERE the second is", x.where(1, k), second[(step + k - 1) % 5]);
                due("WHERE the third is", x.where(2, k), 4);
            }
            x.steps(1);
        }
    }

    private static void cornersToWatch() {
        due("nobody", new GivenMinutes().watch(1), 0);
        due("nobody", CHECK.quay("corners 6;").watch(60), 0);
        for (int corner = 0; corner < 6; corner++) {
            due("the one CORNER", CHECK.quay("corners 6;person 0 0 0 " + corner + ";").watch(60), 1 << corner);
        }
        GivenMinutes all = CHECK.quay("corners 6;person 5 0 0 0;person 5 0 0 1;person 5 0 0 2;person 5 0 0 3;person 5 0 0 4;person 5 0 0 5;");
        due("all CORNERS", all.watch(1), 63);
        due("all CORNERS", all.watch(60), 63);
        for (int bits = 0; bits < 64; bits++) {
            StringBuilder text = new StringBuilder("corners 6;");
            for (int corner = 0; corner < 6; corner++) {
                text.append((bits >> corner & 1) == 1 ? "person 5 0 0 " + corner + ";" : "");
            }
            due("just those CORNERS", CHECK.quay(text.toString()).watch(60), bits);
        }
        GivenMinutes x = CHECK.quay("corners 6;person 5 0 0 0 0 0 0 0 5;person 5 0 0 5;");
        due("in one STEP", x.watch(1), 33);
        due("in five STEPS", x.watch(5), 33);
        due("in six STEPS one CORNER", x.watch(6), 32);
        due("in sixty STEPS", x.watch(60), 32);
        x.steps(1);
        due("from now on in four", x.watch(4), 33);
        due("from now on in five", x.watch(5), 32);
        x.stay(0, true);
        x.steps(20);
        due("SPENT, STAYING IN or not", x.watch(2), 33);
        GivenMinutes y = CHECK.quay("corners 6;person 5 0 0 5 4 3;");
        due("the least in one STEP", y.watch(1), 32);
        due("the least in two STEPS", y.watch(2), 16);
        due("the least in three STEPS", y.watch(3), 8);
        // Two CORNERS do, 1 and 2, or 0 and 3: 6 is less than 9; and one of three is more than two.
        GivenMinutes z = CHECK.quay("corners 4;person 5 0 0 0 1;person 5 0 0 0 2;person 5 0 0 3 1;person 5 0 0 3 2;");
        due("the least as bits", z.watch(2), 6);
        due("the fewest first", CHECK.quay("corners 4;person 5 0 0 0 3;person 5 0 0 1 3;").watch(2), 8);
    }

    // ==== 24 to 26

    private static void whichWatchToSet() {
        for (int clock = 0; clock < 60; clock++) {
            GivenMinutes x = CHECK.quay("person 10 30 1 0;person 500 30 0 0;clock " + clock + ";asks mean;");
            due("the WATCH that shows 0", x.toSet(1, 1, 0), (90 - clock) % 60);
            due("LEFT then", x.toSet(1, 1, 1), 499);
            due("of who asks: all alike", x.toSet(0, 1, 0), 0);
            due("LEFT of who asks", x.toSet(0, 1, 1), 9 + clock);
        }
        for (int shown = 0; shown < 60; shown++) {
            GivenMinutes x = CHECK.quay("person 10 30 1 0;person 500 30 0 0;asks mean;says (shown<" + shown + ")+(" + shown + "<shown);");
            due("this WATCH alone", x.toSet(1, 1, 0), (shown + 30) % 60);
            due("LEFT then", x.toSet(1, 1, 1), 499);
            x.set(1, (shown + 30) % 60);
            due("as one has it", x.toSet(1, 1, 0), (shown + 30) % 60);
        }
        GivenMinutes y = alone(70);
        for (int n : new int[] {1, 2, 59, 60}) {
            due("of like ones the least", y.toSet(0, n, 0), 0);
            due("LEFT behind " + n, y.toSet(0, n, 1), 70 - n);
        }
        GivenMinutes z = CHECK.quay("person 200 30 1 0;person 500 30 0 0;asks mean and step=59;says shown;");
        due("59 STEPS are alike", z.toSet(1, 59, 0), 0);
        // THE CLOCK is 5 * 59 on then, 55 past.
        due("the 60th counts", z.toSet(1, 60, 0), 35);
        due("SPENT", alone(3).toSet(0, 60, 1), 0);
        due("of SPENT ones the least", alone(3).toSet(0, 60, 0), 0);
        due("nothing was SET", z.person(1, 1) + z.count(9), 30);
    }

    private static void whoIsToStay() {
        for (int says = 0; says < 3; says++) {
            GivenMinutes x = CHECK.quay("person 10 30 1 0;person 500 30 0 0;asks mean;says " + says + ";");
            due("if more than without", x.toStay(1, 1), says == 0 ? -1 : 0);
            due("the other one has less", x.toStay(0, 1), -1);
            x.stay(0, true);
            due("all alike", x.toStay(1, 60), -1);
        }
        GivenMinutes y = CHECK.quay("person 10 30 1 0;person 500 30 0 0;person 10 30 1 0;asks mean;says 3*theirs/theirs;");
        due("both ask: oneself", y.toStay(1, 1), 1);
        y.stay(2, true);
        due("one asks: of like ones the least", y.toStay(1, 1), 0);
        y.stay(0, true);
        due("nobody asks", y.toStay(1, 1), -1);
        y.stay(2, false);
        due("the other one asks: of like ones the least", y.toStay(1, 1), 1);
        y.stay(1, true);
        due("who STAYS IN already is none", y.toStay(1, 1), -1);
        GivenMinutes z = CHECK.quay("person 200 30 1 0;person 500 30 0 0;asks mean and step=59;says 5;");
        due("59 STEPS are alike", z.toStay(1, 59), -1);
        due("the 60th counts", z.toStay(1, 60), 0);
        GivenMinutes w = CHECK.quay("person 10 30 1 0;person 500 30 0 0;person 400 30 0 0;asks mean;says 5;");
        due("by oneself, or by who asks: the least", w.toStay(1, 1), 0);
        GivenMinutes v = CHECK.quay("person 500 30 0 0;person 10 30 1 0;asks mean;says 5;");
        due("oneself is the least", v.toStay(0, 1), 0);
        due("who is given less is no use", v.toStay(1, 1), -1);
        due("nobody STAYS IN", v.count(6) + v.count(9), 0);
        due("alone", alone(5).toStay(0, 60), -1);
    }

    private static void howManyToLast() {
        for (int n = 1; n <= 60; n++) {
            due("alone", alone(5).toLast(0, n), n + 1);
        }
        due("who is SPENT now", alone(0).toLast(0, 1), 2);
        GivenMinutes x = CHECK.quay("person 0 30 1 0;person 999 30 0 0;asks mean;says 5;");
        due("1 is enough for who is given more", x.toLast(0, 60), 1);
        due("what one has doesn't count", CHECK.quay("person 999 30 1 0;person 999 30 0 0;asks mean;says 5;").toLast(0, 60), 1);
        for (int says = 57; says <= 59; says++) {
            // 59 more in each of 16 STEPS, and what SAYS gives in the 17th: 1 more must be LEFT behind them.
            GivenMinutes y = CHECK.quay("person 5 30 0 0;person 5 30 1 0;asks mean;says 59-(step=16)*" + (81 - says) + ";");
            int need = 17 + 16 * 59 + says - 22 + 1;
            due("up to 999", y.toLast(0, 17), need <= 999 ? need : -1);
        }
        GivenMinutes z = CHECK.quay("person 5 30 0 0;person 5 30 1 0;asks mean;says 59-(step=16)*21;");
        due("1000 is too much", z.toLast(0, 17), -1);
        GivenMinutes w = CHECK.quay("person 5 30 0 0;person 5 30 1 0;asks mean;says 59-(step=16)*22;");
        due("999 is not", w.toLast(0, 17), 999);
        // With 8 or more one is asked, and gives 59.
        GivenMinutes v = CHECK.quay("person 5 30 0 0;person 50 30 1 0;person 8 30 2 0;asks mean=1 and step<1;says 59;");
        due("the least, though more is worse", v.toLast(0, 3), 4);
        due("the most that isn't asked", v.toLast(0, 6), 7);
        due("who is asked must have much more", v.toLast(0, 7), 67);
        due("LEFT stays", v.person(0, 0) + v.count(9), 5);
    }

    // ==== 27, 28

    private static void pairsAre(String what, int many, int differ, int[] left, int... with) {
        StringBuilder text = new StringBuilder();
        for (int l : left) {
            text.append("person ").append(l).append(" 30 0 0;");
        }
        GivenMinutes x = CHECK.quay(text.toString());
        due(what + ": couples", x.pairs(0), many);
        due(what + ": they differ", x.pairs(1), differ);
        for (int p = 0; p < with.length; p++) {
            due(what + ": with whom " + p + " is", x.pair(p), with[p]);
        }
    }

    private static void couples() {
        due("nobody", new GivenMinutes().pairs(0) + new GivenMinutes().pairs(1), 0);
        pairsAre("alone", 0, 0, new int[] {5}, -1);
        pairsAre("two", 1, 999, new int[] {0, 999}, 1, 0);
        pairsAre("three like ones", 1, 0, new int[] {5, 5, 5}, 1, 0, -1);
        pairsAre("two least", 1, 10, new int[] {10, 30, 20}, 2, -1, 0);
        pairsAre("one least", 1, 9, new int[] {10, 30, 21}, -1, 2, 1);
        pairsAre("one least", 1, 9, new int[] {10, 30, 19}, 2, -1, 0);
        pairsAre("four", 2, 0, new int[] {0, 999, 0, 999}, 2, 3, 0, 1);
        pairsAre("not the nearest, but all together", 2, 20, new int[] {10, 20, 21, 31}, 1, 0, 3, 2);
        pairsAre("not the first, but all together", 2, 19, new int[] {10, 20, 19, 30}, 2, 3, 0, 1);
        pairsAre("of like ones the first row", 2, 20, new int[] {10, 20, 20, 30}, 1, 0, 3, 2);
        pairsAre("all alike", 4, 0, new int[] {1, 1, 1, 1, 1, 1, 1, 1}, 1, 0, 3, 2, 5, 4, 7, 6);
        pairsAre("seven", 3, 0, new int[] {7, 7, 7, 7, 7, 7, 7}, 1, 0, 3, 2, 5, 4, -1);
        pairsAre("with nobody behind all", 3, 0, new int[] {7, 7, 7, 8, 7, 7, 7}, 1, 0, 4, -1, 2, 6, 5);
        GivenMinutes x = CHECK.quay("corners 4;person 0 0 0 0;person 0 0 0 1;person 0 0 0 2;person 0 0 0 3;person 999 0 0 0;"
            + "person 999 0 0 1;person 999 0 0 2;person 999 0 0 3;");
        due("the most that they differ", 10 * x.pairs(1) + x.pairs(0), 39964);
        for (int p = 0; p < 8; p++) {
            due("at one CORNER", x.pair(p), p ^ 4);
            x.stay(p, p % 2 == 0);
        }
        due("STAYING IN or not", x.pairs(0), 4);
        GivenMinutes y = CHECK.quay("person 5 0 0 0 1;person 5 0 0 1;person 9 0 0 0 2;person 9 0 0 2;asks 0;");
        due("in the STEP that comes", y.pair(0), 2);
        due("alone in it", y.pair(1), -1);
        due("they differ", y.pairs(1), 4);
        y.steps(1);
        due("in the next one", y.pair(0), 1);
        due("both couples", y.pairs(0), 2);
        due("they don't differ", y.pairs(1), 0);
        y.steps(8);
        due("SPENT or not", y.pair(1), 0);
    }

    // ==== 30 to 32

    private static void watches() {
        for (int clock = 0; clock < 60; clock += 7) {
            GivenMinutes x = CHECK.quay("person 5 30 0 0;clock " + clock + ";");
            for (int k = 1; k <= 60; k++) {
                due("shows in STEP " + k, x.shows(0, k), (clock + 5 * (k - 1)) % 60);
            }
            x.steps(3);
            due("from now on", x.shows(0, 1), (clock + 15) % 60);
            due("from now on", x.shows(0, 60), (clock + 15 + 55) % 60);
            x.stop(true);
            due("STOPPED", x.shows(0, 60), (clock + 15) % 60);
            due("SPENT or not", CHECK.quay("person 0 30 0 0;clock 8;").shows(0, 2), 13);
        }
        due("below 0", CHECK.quay("person 0 0 0 0;clock 25;").shows(0, 1), 55);
        due("just 0", CHECK.quay("person 0 0 0 0;clock 25;").shows(0, 2), 0);
    }

    private static void alikeWatches() {
        int[] couplesOf = {0, 0, 1, 3, 6, 10, 15, 21, 28};
        for (int many = 0; many <= 8; many++) {
            due("alike of " + many, CHECK.quay("person 0 7 0 0;".repeat(many)).alike(), couplesOf[many]);
        }
        GivenMinutes x = CHECK.quay("person 0 0 0 0;person 9 59 0 1;person 9 0 0 2;person 9 59 0 0;person 9 1 0 0;");
        due("0 and 59 aren't alike", x.alike(), 2);
        x.set(4, 59);
        due("one more", x.alike(), 4);
        x.stay(0, true);
        x.steps(20);
        due("wherever, however they are", x.alike(), 4);
    }

    private static void silentSteps() {
        due("nobody", new GivenMinutes().silent(1), 1);
        due("nobody", new GivenMinutes().silent(60), 60);
        GivenMinutes x = CHECK.quay("person 999 30 0 0 1;person 999 30 0 0;asks 1;says 0;");
        for (int k = 1; k <= 60; k++) {
            due("in each second STEP", x.silent(k), k / 2);
        }
        x.steps(1);
        due("from now on", x.silent(1), 1);
        due("SPENT by then", CHECK.quay("person 3 30 0 0;person 3 30 0 0;asks 1;says 0;").silent(60), 57);
        x.stay(1, true);
        due("none asks, if there is nobody else", x.silent(60), 60);
    }

    public static void main(String[] args) {
        companies();
        behindSoMany();
        spentAndAlive();
        mostOftenAsked();
        robbedByWhom();
        meetAndOften();
        crowds();
        whereOneIs();
        cornersToWatch();
        whichWatchToSet();
        whoIsToStay();
        howManyToLast();
        couples();
        watches();
        alikeWatches();
        silentSteps();
        CHECK.end();
    }
}
