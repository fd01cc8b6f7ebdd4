/** Promises 34, 35, 37 to 39 at each boundary of what they answer: FAST, LOOK NEXT, FOG, a GAME, YEARS. */
public final class ChanceEdgesTest {
    private static final Check CHECK = new Check();

    private static void due(String what, int got, int want) {
        CHECK.due(what, got, want);
    }

    // ==== 34: FAST

    /** The first one asks the last one, and is given what the last one's WATCH shows; the six others do nothing. */
    private static GivenMinutes eight() {
        return CHECK.quay("person 10 30 1 0;" + "person 500 30 0 1;".repeat(6) + "person 900 30 0 0;asks mean;");
    }

    private static void fastWithoutAny() {
        for (int many = 0; many <= 8; many++) {
            GivenMinutes x = CHECK.quay("person 9 30 0 0;".repeat(many));
            due("another one than one has: 59 of each", x.fast(0), 59 * many);
            due("the first", x.fast(1), many == 0 ? -1 : 0);
            due("so without", x.fast(2), 1);
        }
        for (int watch = 0; watch < 60; watch++) {
            GivenMinutes x = CHECK.quay("person 9 " + watch + " 0 0;");
            due("59 others", x.fast(0), 59);
            due("the first other one", x.fast(1), watch == 0 ? 1 : 0);
        }
    }

    private static void fastByOne() {
        for (int watch = 0; watch < 60; watch++) {
            int shown = (watch + 30) % 60;
            GivenMinutes x = eight();
            due("see", x.see(0, 1, 10 + shown - 1), 1);
            due("how many", x.fast(0), watch == 30 ? 7 * 59 : 1);
            due("the first", x.fast(1), watch == 30 ? 0 : 700 + watch);
            due("whether without", x.fast(2), watch == 30 ? 1 : 0);
            due("see what is so by no WATCH", x.see(1, 0, 499), 2);
            due("none", x.fast(0), 0);
            due("no first", x.fast(1), -1);
            due("not without", x.fast(2), 0);
        }
        GivenMinutes x = eight();
        x.set(7, 0);
        x.see(0, 1, 9);
        due("as it was", x.fast(1), 730);
        x.set(7, 30);
        due("all others' WATCHES", x.fast(0), 7 * 59);
        due("so without", x.fast(2), 1);
    }

    /** LEFT behind 0 and behind 20 STEPS, one minute off to each side. */
    private static void seenBehind() {
        for (int steps : new int[] {0, 1, 19, 20}) {
            for (int off = -1; off <= 1; off++) {
                GivenMinutes x = CHECK.quay("person 50 30 0 0;");
                x.see(0, steps, 50 - steps + off);
                due("whether it is so behind " + steps, x.fast(2), off == 0 ? 1 : 0);
                due("how many", x.fast(0), off == 0 ? 59 : 0);
                x.steps(1);
                due("from now on", x.fast(2), off == -1 ? 1 : 0);
            }
        }
        GivenMinutes x = CHECK.quay("person 50 30 1 0;person 900 30 0 0;asks mean and step=19;");
        x.see(0, 20, 50 - 20 + 35);
        due("the 20th STEP counts", x.fast(2), 1);
        x.see(1, 20, 880);
        due("what is SEEN of the other one, too", x.fast(2), 0);
        GivenMinutes y = CHECK.quay("person 5 30 1 0;");
        y.see(0, 5, 0);
        y.see(0, 20, 0);
        due("0 LEFT", y.fast(2), 1);
        GivenMinutes z = CHECK.quay("person 999 30 1 0;person 50 31 0 0;asks mean;says 1;");
        z.see(0, 0, 999);
        z.see(0, 1, 998);
        due("999 LEFT", z.fast(2), 1);
        z.see(0, 0, 998);
        due("both can't be", z.fast(0) + z.fast(2), 0);
    }

    // ==== 35: LOOK NEXT

    private static GivenMinutes lookAt(String asks) {
        return CHECK.quay("person 99 30 1 0;person 500 30 0 0;asks mean and " + asks + ";");
    }

    private static void lookNext() {
        due("nobody", new GivenMinutes().look(0), -1);
        due("nobody: 0", new GivenMinutes().look(1), 0);
        due("all alike: the least", CHECK.quay("person 9 30 0 0;person 9 30 0 1;").look(0), 0);
        due("all alike: one number", CHECK.quay("person 9 30 0 0;person 9 30 0 1;").look(1), 1);
        for (int step = 0; step < 7; step++) {
            due("behind 5 STEPS: " + step, lookAt("step=" + step).look(1), step < 5 ? 60 : 1);
        }
        GivenMinutes x = lookAt("step<1");
        due("of like ones the least", x.look(0), 0);
        due("unlike numbers", x.look(1), 60);
        for (int many = 1; many <= 8; many++) {
            x.see(1, 1, 499);
        }
        // Only WATCHES of the first one leave the second one with all.
        due("by these alone", x.look(1), 1);
        x.forget();
        x.see(1, 1, 498);
        due("by one", x.look(1), 1);
        x.see(1, 2, 498);
        due("none: who", x.look(0), -1);
        due("none: how many", x.look(1), 0);
        GivenMinutes y = CHECK.quay("person 998 30 1 0;person 500 30 0 0;asks mean and step<1;");
        due("who is told of 999 at most", y.look(0), 1);
        due("the other one's numbers", y.look(1), 60);
        // A miser says 0 to 3; the third one, SPENT, has 0 LEFT always.
        GivenMinutes z = CHECK.quay("person 99 30 1 0;miser 500 30 0 0;person 0 0 0 0;asks mean and step<1;");
        due("0 to 3", z.look(1), 4);
        due("who", z.look(0), 0);
        GivenMinutes w = CHECK.quay("person 999 30 1 0;person 999 30 0 0;asks mean and step<1;says 0;");
        due("994 once", w.look(1), 1);
        GivenMinutes v = CHECK.quay("person 0 30 0 0;person 500 30 0 0;person 999 30 1 0;asks mean and step<1;");
        due("who gives, behind who is SPENT", v.look(0), 1);
        due("nothing changes", v.count(9) + v.count(10) + v.person(0, 1), 30);
    }

    /** As it is without, both ask one another for nothing; each other WATCH gives other minutes. */
    private static void lookByOthersAlone() {
        for (int clock : new int[] {29, 30, 31}) {
            int watch = (90 - clock) % 60;
            String person = "person 300 " + watch + " 0 0;";
            GivenMinutes x = CHECK.quay("clock " + clock + ";" + person + person + "asks step<1;");
            due("what it is without isn't one of them", x.look(1), 118);
            due("behind 5 STEPS from now on", x.look(0), 0);
        }
        GivenMinutes y = lookAt("step=6");
        y.see(1, 3, 497);
        due("so by all", y.fast(0), 118);
        due("not behind what is SEEN", y.look(1), 1);
        GivenMinutes z = lookAt("step=4");
        z.see(1, 20, 480);
        due("what is SEEN behind it counts", z.look(1), 1);
    }

    /** By ACTS on other objects: who has how many unlike numbers. */
    private static void lookByActs(String text, int[] see) {
        GivenMinutes x = CHECK.quay(text);
        if (see.length == 3) {
            x.see(see[0], see[1], see[2]);
        }
        int people = x.count(1);
        boolean[][] isThere = new boolean[people][1000];
        int many = 0;
        int first = -1;
        for (int p = 0; p < people; p++) {
            for (int watch = 0; watch < 60; watch++) {
                GivenMinutes y = CHECK.quay(text);
                boolean isAnother = y.set(p, watch) >= 0;
                if (!isAnother || see.length == 3 && y.then(see[0], see[1], 0) != see[2]) {
                    continue;
                }
                many++;
                first = first < 0 ? 100 * p + watch : first;
                for (int q = 0; q < people; q++) {
                    isThere[q][y.then(q, 5, 0)] = true;
                }
            }
        }
        int best = -1;
        int most = 0;
        for (int p = 0; p < people; p++) {
            int unlike = 0;
            for (boolean is : isThere[p]) {
                unlike += is ? 1 : 0;
            }
            if (unlike > most) {
                most = unlike;
                best = p;
            }
        }
        due("FAST: " + text, x.fast(0), many);
        due("the first: " + text, x.fast(1), first);
        due("LOOK NEXT at: " + text, x.look(0), best);
        due("LOOK NEXT: " + text, x.look(1), most);
    }

    private static void lookAtMany() {
        for (int left = 100; left <= 999; left += 11) {
            lookByActs("person " + left + " 30 0 0;person " + left + " 30 0 0;asks step<1;", new int[0]);
        }
        for (int left = 60; left < 130; left++) {
            lookByActs("person " + left + " 30 0 0;person 200 30 0 0;asks step<1;", new int[0]);
        }
        String rich = "person 989 30 0 0;person 7 0 0 0;person 1 30 1 0;person 965 30 0 1;person 3 30 1 1;person 5 0 0 1;"
            + "person 960 30 0 2;person 9 30 1 2;asks mean and step<1;";
        lookByActs(rich, new int[0]);
        lookByActs(rich + "says shown/2;", new int[] {0, 0, 989});
        lookByActs(rich + "says shown/2;", new int[] {0, 1, 984});
        for (int left = 0; left <= 999; left += 37) {
            for (int poor = 5; poor < 200; poor += 58) {
                String one = "person " + left + " 30 0 1;";
                String other = "person " + poor + " 30 1 0;";
                lookByActs(one + other + "person 500 30 0 0;asks mean and step=3;", new int[0]);
                lookByActs("person 500 30 0 0;" + other + one + "asks mean and step=3;", new int[0]);
            }
        }
        String last = "person 3 30 0 0;".repeat(6) + "person 900 30 0 1;person 500 30 1 1;asks mean;";
        lookByActs(last, new int[0]);
        lookByActs(last + "says shown;", new int[] {7, 1, 504});
        lookByActs("person 3 30 0 0;".repeat(6) + "person 500 30 1 1;person 900 30 0 1;asks mean and step=3;", new int[] {6, 5, 530});
        lookByActs("person 40 30 0 0;person 50 40 0 0;person 45 50 0 0 1;miser 300 0 1 0 1 2;", new int[] {1, 2, 70});
        lookByActs("person 40 30 0 0;person 50 40 0 0;person 45 50 0 0 1;miser 300 0 1 0 1 2;", new int[0]);
    }

    // ==== 37: FOG

    private static int power(int base, int exponent) {
        return exponent == 0 ? 1 : base * power(base, exponent - 1);
    }

    private static void fog() {
        for (int tenths = 0; tenths <= 10; tenths++) {
            for (int steps = 1; steps <= 5; steps++) {
                int all = power(10, steps);
                for (int left = 0; left <= 7; left++) {
                    due("alone", CHECK.quay("person " + left + " 30 0 0;").fog(0, steps, tenths), left <= steps ? all : 0);
                }
                // One who is given in the last STEP is SPENT if there is FOG in it.
                GivenMinutes x = CHECK.quay("person " + steps + " 30 1 0;person 500 30 0 0;asks mean and step=" + (steps - 1) + ";says 9;");
                due("FOG in the last STEP", x.fog(0, steps, tenths), tenths * all / 10);
                GivenMinutes y = CHECK.quay("person " + steps + " 30 1 0;person 500 30 0 0;asks mean;says 1;");
                due("FOG in all STEPS", y.fog(0, steps, tenths), power(tenths, steps));
                GivenMinutes z = CHECK.quay("person 9 30 1 0;person " + (steps + 1) + " 30 0 0;asks mean;says 1;");
                due("no FOG in any", z.fog(1, steps, tenths), all - power(tenths, steps));
            }
        }
        GivenMinutes x = CHECK.quay("person 1 30 1 0;person 500 30 0 0;clock 0;asks mean;");
        due("0 is given without FOG", x.fog(0, 1, 3), 10);
        GivenMinutes w = CHECK.quay("person 2 30 1 0;person 500 30 0 0;clock 55;asks mean and step=1;");
        due("THE CLOCK goes on in FOG", w.fog(0, 2, 5), 100);
        w.stop(true);
        due("STOPPED it doesn't", w.fog(0, 2, 5), 50);
        due("nothing went by", x.count(2) + x.count(9), 0);
        GivenMinutes y = CHECK.quay("person 3 30 1 0;person 500 30 0 0;asks mean;says step=2;");
        due("the STEP goes on in FOG", y.fog(0, 3, 4), 400);
        GivenMinutes z = CHECK.quay("corners 2;person 2 30 1 0 1;person 500 30 0 1;asks mean;says 9;");
        due("one walks on in FOG", z.fog(0, 2, 4), 40);
    }

    // ==== 38: A GAME

    /** The first one asks in the first STEP alone, and is given so many. */
    private static GivenMinutes game(int left, int lefts, int says) {
        return CHECK.quay("person " + left + " 30 1 0;person " + lefts + " 30 0 0;asks mean and step<1;says " + says + ";");
    }

    private static void games() {
        // The second one has 94 then: by hiding 23 - 2, else what is LEFT by 4.
        for (int says = 0; says <= 20; says++) {
            GivenMinutes x = game(10, 100, says);
            int gives = (94 - says) / 4;
            due("how many rest with " + says, x.game(0, 1, 0), gives == 21 ? 2 : 1);
            due("the first with " + says, x.game(0, 1, 1), gives >= 21 ? 0 : 1);
            due("how many, told the other way", x.game(1, 0, 0), gives == 21 ? 2 : 1);
            due("the first, told the other way", x.game(1, 0, 1), gives >= 21 ? 0 : 10);
        }
        // By hiding one loses 2, so 4 times 2 is not yet worth it.
        for (int lefts = 90; lefts <= 110; lefts++) {
            GivenMinutes x = game(10, lefts, 8);
            int hides = (lefts - 6) / 4 - 2;
            int gives = (lefts - 14) / 4;
            due("LEFT by 4, cut down", x.game(0, 1, 0), hides == gives ? 2 : 1);
        }
        GivenMinutes apart = CHECK.quay("person 10 30 1 0;person 10 30 1 1;");
        due("apart nobody hides", apart.game(0, 1, 0), 1);
        due("apart: 0 0", apart.game(0, 1, 1), 0);
        for (int left = 0; left <= 9; left++) {
            due("2 less is less, however few are LEFT", CHECK.quay("person " + left + " 0 0 0;person 0 0 0 1;").game(0, 1, 1), 0);
        }
        due("nothing is hidden", apart.count(6) + apart.count(9) + apart.person(0, 3), 1);
        due("six STEPS", sixSteps(5), 1);
        due("not seven", sixSteps(6), 0);
    }

    /** Which couple rests first, if the second one is robbed of 40 in one STEP alone. */
    private static int sixSteps(int step) {
        return CHECK.quay("person 10 30 1 0;person 100 30 0 0;asks mean and step=" + step + ";says 40;").game(0, 1, 1);
    }

    /** Of a miser who hides MEAN is 9; who STAYS IN already gains nothing by hiding; a third one asks all the same. */
    private static void gamesOfOthers() {
        GivenMinutes x = CHECK.quay("person 10 30 1 0;person 100 30 0 0;asks mean and step<1;says 40;");
        due("the second one hides", x.game(0, 1, 1), 1);
        x.stay(1, true);
        due("one STAYS IN already", x.game(0, 1, 1), 0);
        due("that alone", x.game(0, 1, 0), 1);
        x.stay(1, false);
        x.stay(0, true);
        due("the other one STAYS IN already", x.game(0, 1, 1), 0);
        // Who asks is as mean as 9 by hiding, but STAYS IN, and doesn't ask; it is the one who is asked else that is robbed.
        GivenMinutes y = CHECK.quay("person 10 30 1 0;person 100 30 0 0;person 90 30 0 0;asks mean and step<1;says 40;");
        due("the second one hides, the third one is robbed", y.game(0, 1, 1), 1);
        due("between those two the second one hides", y.game(1, 2, 1), 11);
        due("told the other way", y.game(2, 1, 1), 11);
        due("both hide alone", y.game(1, 2, 0), 1);
        GivenMinutes z = CHECK.quay("person 100 30 0 0;person 100 30 0 1;person 10 30 1 0;person 10 30 1 1;asks mean and step<1;says 8;");
        due("as much by hiding, each of its own CORNER: all rest", z.game(0, 1, 0), 4);
        due("the first of all", z.game(0, 1, 1), 0);
        GivenMinutes w = CHECK.quay("person 40 30 1 0;person 38 46 2 0;person 48 38 1 0;");
        due("none rests", w.game(0, 1, 0), 0);
        due("no first", w.game(0, 1, 1), -1);
        GivenMinutes v = CHECK.quay("person 40 30 0 0;miser 500 30 0 0;clock 40;asks left<99;");
        due("a miser hides for 11 minutes", v.game(0, 1, 1), 1);
        due("that alone", v.game(0, 1, 0), 1);
    }

    /** Where MEAN tells nothing, who hides the WATCH is one who STAYS IN: all couples again, by ACTS. */
    private static void gamesByActs(String text) {
        GivenMinutes x = CHECK.quay(text);
        for (int p = 0; p < x.count(1); p++) {
            for (int q = 0; q < x.count(1); q++) {
                if (p == q) {
                    continue;
                }
                int[][] gain = new int[4][];
                for (int choices = 0; choices < 4; choices++) {
                    GivenMinutes y = CHECK.quay(text);
                    y.stay(p, choices > 1);
                    y.stay(q, choices % 2 == 1);
                    gain[choices] = new int[] {y.then(p, 6, 0) / 4 - choices / 2 * 2, y.then(q, 6, 0) / 4 - choices % 2 * 2};
                }
                int many = 0;
                int first = -1;
                for (int choices = 3; choices >= 0; choices--) {
                    boolean oneStays = gain[choices ^ 2][0] <= gain[choices][0];
                    boolean otherStays = gain[choices ^ 1][1] <= gain[choices][1];
                    if (oneStays && otherStays) {
                        many++;
                        first = choices / 2 * 10 + choices % 2;
                    }
                }
                due("how many rest: " + text, x.game(p, q, 0), many);
                due("the first: " + text, x.game(p, q, 1), first);
            }
        }
    }

    private static void manyGames() {
        String[] rules = {"", "says theirs;", "asks 1;", "asks 1;says theirs;", "asks step<2;says left/3;", "says company*9;"};
        for (String rule : rules) {
            for (int n = 0; n < 40; n++) {
                String text = "person " + (10 + n * 7 % 50) + " " + n + " 0 0;person " + (60 - n) + " 44 0 0;person " + n * 11 % 60
                    + " 38 0 0 1;person " + (20 + n) + " 40 0 1 0;" + rule;
                gamesByActs(text);
            }
        }
    }

    // ==== 39: YEARS

    private static int next(int seed) {
        return seed * 1103515245 + 12345;
    }

    private static int drawn(int seed, int n) {
        return (seed >> 16 & 0x7fff) % n;
    }

    /** The same by ACTS on a second object; a toss of THE CLOCK can't be done by them, so those seeds end ahead of it. */
    private static void byActs(int seed, int n, String text) {
        GivenMinutes x = CHECK.quay(text);
        GivenMinutes y = CHECK.quay(text);
        int people = x.count(1);
        int s = seed;
        int given = 0;
        for (int k = 0; k <= n; k++) {
            due("minutes given", x.years(seed, k, 0), given);
            due("LEFT of all", x.years(seed, k, 1), y.count(7));
            due("who isn't SPENT", x.years(seed, k, 2), y.count(5));
            s = next(s);
            int what = drawn(s, 6);
            if (what == 3) {
                return;
            }
            if (what < 3 && people > 0) {
                s = next(s);
                int who = drawn(s, people);
                if (what == 0) {
                    s = next(s);
                    y.set(who, drawn(s, 60));
                } else if (what == 1) {
                    y.stay(who, y.person(who, 7) == 0);
                } else {
                    y.give(who, 20);
                }
            }
            given += y.later(1, 4);
            y.steps(1);
        }
    }

    private static void years() {
        String[] texts = {"person 40 50 0 0;person 990 41 0 0 1;person 100 30 0 0;", "person 5 30 0 0;".repeat(8) + "clock 44;",
            "person 999 30 0 0;", "person 0 30 0 0;person 999 58 0 0;asks 1;says shown/2;", "corners 4;clock 3;"};
        for (String text : texts) {
            for (int seed : new int[] {0, 1, -1, 2, 12345, Integer.MIN_VALUE, Integer.MAX_VALUE, Integer.MIN_VALUE + 1}) {
                byActs(seed, 60, text);
            }
            for (int k = 0; k < 60; k++) {
                byActs(k * 40503 * 65536 + k, 60, text);
            }
        }
        GivenMinutes x = CHECK.quay(texts[0]);
        x.years(7, 60, 0);
        due("nothing went by", x.count(2) + x.count(9) + x.count(3) + x.count(6), 0);
        due("the same seed, the same years", x.years(7, 60, 1), x.years(7, 60, 1));
        due("without PEOPLE", new GivenMinutes().years(7, 60, 0) + new GivenMinutes().years(7, 60, 1) + new GivenMinutes().years(7, 60, 2), 0);
    }

    /** Draw 3: THE CLOCK of a second object is told by its text; also if it is STOPPED. */
    private static void yearsOfAClock() {
        int found = 0;
        for (int seed = 0; seed < 400; seed++) {
            int s = next(seed);
            if (drawn(s, 6) != 3) {
                continue;
            }
            found++;
            int clock = drawn(next(s), 60);
            String people = "person 10 30 1 0;person 900 30 0 0;asks mean;";
            GivenMinutes x = CHECK.quay(people + "clock 9;");
            due("what the WATCH shows then", x.years(seed, 1, 0), clock);
            x.stop(true);
            due("STOPPED or not", x.years(seed, 1, 0), clock);
            due("THE CLOCK is as it was", x.count(3), 9);
        }
        due("some of 400 are such", found > 40 ? 1 : 0, 1);
    }

    public static void main(String[] args) {
        fastWithoutAny();
        fastByOne();
        seenBehind();
        lookNext();
        lookByOthersAlone();
        lookAtMany();
        fog();
        games();
        gamesOfOthers();
        manyGames();
        years();
        yearsOfAClock();
        CHECK.end();
    }
}
