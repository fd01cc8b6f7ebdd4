/** A STEP at each boundary that the document names: who asks whom, how much is given, what is kept to a bound, what wraps. */
public final class StepEdgesTest {
    private static final Check CHECK = new Check();

    private static void due(String what, int got, int want) {
        CHECK.due(what, got, want);
    }

    private static void left(String what, GivenMinutes x, int... want) {
        due(what + ": how many", x.count(1), want.length);
        for (int p = 0; p < want.length; p++) {
            due(what + ": LEFT of " + p, x.person(p, 0), want[p]);
        }
    }

    // ==== Places, WATCHES, THE CLOCK

    private static void placesOfAWalk() {
        for (int many = 1; many <= 6; many++) {
            String walk = " 5 3 1 0 2 4".substring(0, 2 * many);
            GivenMinutes x = CHECK.quay("corners 6;person 1 2 3" + walk + ";");
            for (int t = 0; t < 20; t++) {
                due("CORNER of STEP " + t + " of" + walk, x.person(0, 4), walk.charAt(2 * (t % many) + 1) - '0');
                x.steps(1);
            }
            for (int n = 0; n < 48; n++) {
                x.steps(20);
            }
            for (int t = 980; t < 999; t++) {
                due("CORNER of STEP " + t + " of" + walk, x.where(0, 1), walk.charAt(2 * (t % many) + 1) - '0');
                x.steps(1);
            }
            due("CORNER of STEP 999 of" + walk, x.person(0, 4), walk.charAt(2 * (999 % many) + 1) - '0');
            due("CORNER of STEP 1058 of" + walk, x.where(0, 60), walk.charAt(2 * (1058 % many) + 1) - '0');
        }
    }

    private static void whatAWatchShows() {
        int[] some = {0, 1, 29, 30, 31, 58, 59};
        for (int clock : some) {
            for (int watch : some) {
                GivenMinutes x = CHECK.quay("person 1 " + watch + " 0 0;clock " + clock + ";");
                int shown = clock + watch - 30;
                shown = shown < 0 ? shown + 60 : shown > 59 ? shown - 60 : shown;
                due("WATCH " + watch + " at " + clock, x.person(0, 2), shown);
                due("it is so in the STEP that comes", x.shows(0, 1), shown);
            }
        }
        due("below 0", CHECK.quay("person 1 29 0 0;clock 0;").person(0, 2), 59);
        due("just 0", CHECK.quay("person 1 30 0 0;clock 0;").person(0, 2), 0);
        due("just 59", CHECK.quay("person 1 30 0 0;clock 59;").person(0, 2), 59);
        due("above 59", CHECK.quay("person 1 31 0 0;clock 59;").person(0, 2), 0);
        due("most of all", CHECK.quay("person 1 59 0 0;clock 59;").person(0, 2), 28);
    }

    private static void theClockGoesRound() {
        for (int clock = 0; clock < 60; clock++) {
            GivenMinutes x = CHECK.quay("clock " + clock + ";");
            x.steps(1);
            due("5 on from " + clock, x.count(3), clock > 54 ? clock - 55 : clock + 5);
            due("one STEP more", x.count(2), 1);
            x.steps(11);
            due("an hour on", x.count(3), clock);
            x.stop(true);
            x.steps(7);
            due("STOPPED", x.count(3), clock);
            due("STEPS go by all the same", x.count(2), 19);
            x.stop(false);
            x.steps(1);
            due("again", x.count(3), (clock + 5) % 60);
        }
    }

    // ==== Who asks

    /** The first one would ask the second one, but for what is told. */
    private static GivenMinutes two(int left, int lefts) {
        return CHECK.quay("corners 2;person " + left + " 30 0 0;person " + lefts + " 35 0 0;asks left<500;");
    }

    private static void whoAsks() {
        due("asks", two(10, 500).asked(0, 1), 1);
        due("who is SPENT doesn't", two(0, 500).asked(0, 1), -1);
        due("who has 1 LEFT does", two(1, 500).asked(0, 1), 1);
        due("who is SPENT isn't company", two(10, 0).asked(0, 1), -1);
        due("who has 1 LEFT is", two(10, 1).asked(0, 1), 1);
        GivenMinutes x = two(10, 500);
        x.stay(1, true);
        due("who STAYS IN isn't company", x.asked(0, 1), -1);
        x.stay(1, false);
        due("who doesn't any more is", x.asked(0, 1), 1);
        x.stay(0, true);
        due("who STAYS IN doesn't ask", x.asked(0, 1), -1);
        x.stay(0, false);
        due("who doesn't any more does", x.asked(0, 1), 1);
        due("alone", CHECK.quay("person 10 30 0 0;asks 1;").asked(0, 1), -1);
        due("elsewhere", CHECK.quay("person 10 30 0 0;person 10 30 0 1;asks 1;").silent(60), 60);
        GivenMinutes y = CHECK.quay("corners 2;person 10 30 0 0 1;person 500 30 0 0;asks 1;");
        due("at one CORNER in the first STEP", y.asked(0, 1), 1);
        due("not in the second one", y.asked(0, 2), -1);
        due("at one CORNER in the third one", y.asked(0, 3), 1);
        GivenMinutes z = CHECK.quay("person 10 30 0 0;person 9 30 0 0;person 5 30 0 0;person 500 30 0 1;asks 1;says 0;");
        z.stay(1, true);
        due("others are asked instead", z.asked(0, 1), 2);
        z.stay(2, true);
        due("all others STAY IN", z.asked(0, 1), -1);
    }

    private static void moreThanZero() {
        for (int left = 40; left <= 60; left++) {
            GivenMinutes x = CHECK.quay("person " + left + " 30 0 0;person 900 30 0 0;asks (left<200)*(left-50);");
            due("ASKS gives " + (left - 50), x.asked(0, 1), left > 50 ? 1 : -1);
            due("ASKS gives 0", x.asked(1, 1), -1);
        }
        due("ASKS gives the most", CHECK.quay("person 9 30 0 0;person 9 30 0 0;asks 8192*8192*32-1;").asked(0, 1), 1);
        due("ASKS gives the least", CHECK.quay("person 9 30 0 0;person 9 30 0 0;asks 8192*8192*32;").asked(0, 1), -1);
        for (int left = 1; left < 70; left++) {
            GivenMinutes x = CHECK.quay("person " + left + " 30 0 0;person 900 30 0 0;");
            due("without ASKS, with " + left, x.asked(0, 1), left <= 60 ? 1 : -1);
        }
        due("without ASKS, also a miser", CHECK.quay("miser 60 30 0 0;person 900 30 0 0;").asked(0, 1), 1);
        due("61 miserly", CHECK.quay("miser 61 30 0 0;person 900 30 0 0;").asked(0, 1), -1);
    }

    // ==== Whom one asks

    private static int asked(int... lefts) {
        StringBuilder text = new StringBuilder("person 10 30 1 0;");
        for (int left : lefts) {
            text.append("person ").append(left).append(" 30 0 0;");
        }
        return CHECK.quay(text + "asks mean;").asked(0, 1);
    }

    private static void whoHasMost() {
        due("one", asked(1), 1);
        due("who has most", asked(5, 6), 2);
        due("who has most", asked(6, 5), 1);
        due("of like ones the least", asked(6, 6), 1);
        due("of like ones the least", asked(5, 6, 6), 2);
        due("of like ones the least", asked(6, 5, 6), 1);
        due("one more", asked(998, 998, 998, 998, 998, 998, 999), 7);
        due("of seven like ones", asked(999, 999, 999, 999, 999, 999, 999), 1);
        due("SPENT ones aren't", asked(0, 0, 0, 1, 0), 4);
        due("all SPENT", asked(0, 0), -1);
        due("less than who asks", CHECK.quay("person 900 30 1 0;person 7 30 0 0;asks mean;").asked(0, 1), 1);
        GivenMinutes x = CHECK.quay("person 10 30 0 0;person 6 30 0 0;person 900 30 0 1;person 5 30 0 0;asks 1;says 0;");
        due("not who is elsewhere", x.asked(0, 1), 1);
        due("not oneself", x.asked(3, 1), 0);
        x.stay(1, true);
        due("not who STAYS IN", x.asked(0, 1), 3);
    }

    /** What one was given counts at once for those who ask behind one. */
    private static void personByPerson() {
        GivenMinutes x = CHECK.quay("person 5 30 0 0;person 30 30 0 0;person 3 30 0 0;asks 1;says 30;");
        due("the first asks the second", x.asked(0, 1), 1);
        due("who is SPENT at once doesn't ask", x.asked(1, 1), -1);
        due("nor is asked", x.asked(2, 1), 0);
        x.steps(1);
        left("all that was LEFT", x, 4, 0, 32);
        GivenMinutes y = CHECK.quay("person 5 30 0 0;person 31 30 0 0;person 3 30 0 0;asks 1;says 30;");
        due("who has 1 LEFT still asks", y.asked(1, 1), 0);
        due("and has most then", y.asked(2, 1), 1);
        y.steps(1);
        left("one minute more", y, 4, 0, 32);
        GivenMinutes z = CHECK.quay("person 5 30 0 0;person 29 30 0 0;person 3 30 0 0;asks 1;says 30;");
        z.steps(1);
        left("one minute less", z, 3, 0, 32);
        GivenMinutes w = CHECK.quay("person 50 30 0 0;person 59 35 0 0;person 58 30 0 0;");
        w.steps(1);
        // The second one gave 5 to the first one, and asks who has 58 against 55; the third one asks the first one.
        left("one behind the other", w, 54, 53, 57);
    }

    // ==== How much is given

    private static GivenMinutes saying(int left, int lefts, String rule) {
        return CHECK.quay("person " + left + " 30 1 0;person " + lefts + " 30 0 0;asks mean;says " + rule + ";");
    }

    private static void saysIsKept() {
        for (int says = -62; says <= 122; says++) {
            String rule = says < 0 ? "0-" + -says : "" + says;
            due("SAYS " + says, saying(10, 500, rule).robbed(1, 0, 1), says < 0 ? 0 : says > 59 ? 59 : says);
        }
        due("SAYS the most", saying(10, 500, "8192*8192*32-1").robbed(1, 0, 1), 59);
        due("SAYS the least", saying(10, 500, "8192*8192*32").robbed(1, 0, 1), 0);
        due("who is given 0 asked all the same", saying(10, 500, "0").asked(0, 1), 1);
        for (int shown = 0; shown < 60; shown++) {
            GivenMinutes x = CHECK.quay("person 10 1 1 0;person 500 " + (shown + 30) % 60 + " 0 0;asks mean;");
            due("without SAYS", x.robbed(1, 0, 1), shown);
        }
    }

    private static void allThatAreLeft() {
        for (int lefts = 1; lefts <= 40; lefts++) {
            GivenMinutes x = saying(10, lefts, "30");
            due("of " + lefts, x.robbed(1, 0, 1), Math.min(lefts, 30));
            x.steps(1);
            left("of " + lefts, x, 9 + Math.min(lefts, 30), Math.max(lefts - 31, 0));
            due("GIVEN of " + lefts, x.person(1, 5), Math.min(lefts, 30));
            due("who isn't SPENT", x.count(5), lefts > 31 ? 3 : 1);
        }
    }

    private static void misers() {
        for (int shown = 0; shown < 60; shown++) {
            for (int mean = 0; mean <= 9; mean += mean < 4 ? 1 : 5) {
                String text = "person 10 30 0 0;miser 500 " + (shown + 30) % 60 + " " + mean + " 0;";
                int want = Math.max(shown / 15 - mean, 0);
                due("a miser of " + mean + " at " + shown, CHECK.quay(text).robbed(1, 0, 1), want);
                due("whatever SAYS gives", CHECK.quay(text + "says 44;").robbed(1, 0, 1), want);
            }
        }
        int[] shown = {0, 14, 15, 29, 30, 44, 45, 59};
        int[] want = {0, 0, 1, 1, 2, 2, 3, 3};
        for (int k = 0; k < shown.length; k++) {
            due("by 15", CHECK.quay("person 10 30 0 0;miser 500 30 0 0;clock " + shown[k] + ";").robbed(1, 0, 1), want[k]);
        }
        due("one who isn't a miser", CHECK.quay("person 10 30 0 0;person 500 30 0 0;clock 59;").robbed(1, 0, 1), 59);
        due("all that is LEFT of a miser", CHECK.quay("person 10 30 0 0;miser 2 30 0 0;clock 59;").robbed(1, 0, 1), 2);
        GivenMinutes x = CHECK.quay("miser 10 30 0 0;person 500 30 0 0;clock 59;");
        due("a miser is given what others say", x.robbed(1, 0, 1), 59);
    }

    private static void leftOfAtMost999() {
        for (int left = 935; left <= 945; left++) {
            GivenMinutes x = saying(left, 999, "59");
            x.steps(1);
            left("59 more than " + left, x, Math.min(left + 59, 999) - 1, 939);
            due("GIVEN all the same", x.person(1, 5), 59);
        }
        due("998 and 1", saying(998, 999, "1").then(0, 1, 0), 998);
        due("999 and 1", saying(999, 999, "1").then(0, 1, 0), 998);
        due("997 and 1", saying(997, 999, "1").then(0, 1, 0), 997);
    }

    /** GIVEN is 9971 behind 169 STEPS, and as told by the 170th one. */
    private static void givenOfAtMost9999() {
        for (int last = 26; last <= 31; last++) {
            GivenMinutes x = CHECK.quay("person 999 30 0 0;person 999 30 0 0;asks 1;says 59-" + (59 - last) + "*(step=169);");
            for (int n = 0; n < 8; n++) {
                x.steps(20);
            }
            x.steps(9);
            due("GIVEN behind 169", x.person(1, 5), 9971);
            due("GIVEN then", x.then(1, 1, 1), Math.min(9971 + last, 9999));
            due("what is given isn't kept", x.robbed(1, 0, 1), last);
            x.steps(1);
            due("GIVEN behind 170", x.person(1, 5), Math.min(9971 + last, 9999));
            x.steps(1);
            due("GIVEN at most", x.person(1, 5), 9999);
            due("what is given isn't kept", x.robbed(1, 0, 1), 59);
        }
    }

    // ==== The end of a STEP

    private static void minutesGoBy() {
        GivenMinutes x = CHECK.quay("person 0 0 0 0;person 1 0 0 0;person 2 0 0 0;person 3 0 0 0;person 999 0 0 0;asks 0;");
        x.stay(3, true);
        x.steps(1);
        left("1 less", x, 0, 0, 1, 2, 998);
        due("who isn't SPENT", x.count(5), 4 + 8 + 16);
        x.steps(1);
        left("1 less", x, 0, 0, 0, 1, 997);
        due("who isn't SPENT", x.count(5), 8 + 16);
        x.steps(1);
        left("who STAYS IN, too", x, 0, 0, 0, 0, 996);
        due("LEFT of all", x.count(7), 996);
        x.steps(20);
        left("not below 0", x, 0, 0, 0, 0, 976);
    }

    public static void main(String[] args) {
        placesOfAWalk();
        whatAWatchShows();
        theClockGoesRound();
        whoAsks();
        moreThanZero();
        whoHasMost();
        personByPerson();
        saysIsKept();
        allThatAreLeft();
        misers();
        leftOfAtMost999();
        givenOfAtMost9999();
        minutesGoBy();
        CHECK.end();
    }
}
