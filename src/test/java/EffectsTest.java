import java.util.LinkedHashMap;
import java.util.List;
import java.util.Map;
import java.util.Set;
import java.util.TreeSet;
import java.util.function.Consumer;
import java.util.function.Supplier;

/**
 * What each call changes, and that it changes nothing else: what is so now, ACTS, what is SEEN, the FAULT's place, the tape,
 * STATUS, the image.
 */
public final class EffectsTest {
    private static final Check CHECK = new Check();
    private static final String TEXT = "corners 4;person 50 40 2 0 1;person 300 30 0 0 1 2;miser 100 59 1 0 3;clock 10;"
        + "asks left<310;says theirs/9;";
    /** What stands on the tape: it tells of another QUAY than what is so. */
    private static final String NEXT_TEXT = "corners 2;person 7 8 9 1;clock 33;says 5;";
    private static final int MOST_ACTS = 40;

    /** The names of the calls that were made here: each of the face must be. */
    private static final Set<String> CALLED = new TreeSet<>();

    /** all(busy()), as the Model tells it, too. */
    private static final String[][] BUSY = {
        {"status", "2 2 1"},
        {"fault", "9"},
        {"now", "4 3 2 20 1 7 1 474 1 : 29 40 30 2 0 30 0 1 4 : 307 5 55 0 2 22 0 0 0 : 138 59 49 1 0 1 1 0 1 : 465 0"},
        {"seen", "2 : 0 -1 0"},
        {"acts", "5"
            + "\n  4 3 2 20 1 7 0 474 1 : 29 40 30 2 0 30 0 0 4 : 307 5 55 0 2 22 0 0 0 : 138 59 49 1 0 1 1 0 1 : 466 35"
            + "\n  4 3 2 20 0 7 0 474 1 : 29 40 30 2 0 30 0 0 4 : 307 5 55 0 2 22 0 0 0 : 138 59 49 1 0 1 1 0 1 : 466 35"
            + "\n  4 3 2 20 0 7 0 444 1 : 29 40 30 2 0 30 0 0 4 : 307 5 55 0 2 22 0 0 0 : 108 59 49 1 0 1 1 0 1 : 435 27"
            + "\n  4 3 2 20 0 7 0 444 1 : 29 40 30 2 0 30 0 0 4 : 307 30 20 0 2 22 0 0 0 : 108 59 49 1 0 1 1 0 1 : 435 27"
            + "\n  4 3 0 10 0 7 0 450 1 : 50 40 20 2 0 0 0 0 6 : 300 30 10 0 0 0 0 0 5 : 100 59 39 1 0 0 1 0 3 : 441 66"},
        {"image", "true"},
        {"image status", "2 1 0"},
        {"image now", "4 3 2 20 0 7 0 444 1 : 29 40 30 2 0 30 0 0 4 : 307 5 55 0 2 22 0 0 0 : 108 59 49 1 0 1 1 0 1 : 435 27"},
        {"image seen", "1 : 132 0 1"},
        {"image acts", "2"
            + "\n  4 3 2 20 0 7 0 444 1 : 29 40 30 2 0 30 0 0 4 : 307 30 20 0 2 22 0 0 0 : 108 59 49 1 0 1 1 0 1 : 435 27"
            + "\n  4 3 0 10 0 7 0 450 1 : 50 40 20 2 0 0 0 0 6 : 300 30 10 0 0 0 0 0 5 : 100 59 39 1 0 0 1 0 3 : 441 66"},
        {"tape", "60 0 2 1 0 33 0 1 0 7 0 : 7 8 11 9 1 0 0 0 0 : 4 0"}
    };

    // ==== Of each kind something, both in the image and behind it

    private static void ahead(GivenMinutes x) {
        Check.tell(x, "corners 1;");
        CHECK.due("told", Check.tell(x, TEXT), 0);
        Check.tell(x, "clock    60;");
        Check.feed(x, NEXT_TEXT);
        x.steps(2);
        x.set(1, 5);
        x.see(0, 1, x.then(0, 1, 0));
        x.steps(0);
    }

    private static void behind(GivenMinutes x) {
        x.give(2, 30);
        x.stop(true);
        x.stay(0, true);
        x.see(1, 2, x.then(1, 2, 0));
        x.see(0, 21, 0);
        x.set(1, 60);
    }

    private static GivenMinutes busy() {
        GivenMinutes x = new GivenMinutes();
        ahead(x);
        x.image();
        behind(x);
        return x;
    }

    // ==== What can be told of an object

    private static String now(GivenMinutes x) {
        StringBuilder row = new StringBuilder();
        for (int what = 0; what < 9; what++) {
            row.append(x.count(what)).append(' ');
        }
        for (int p = 0; p < x.count(1); p++) {
            row.append(": ");
            for (int what = 0; what < 9; what++) {
                row.append(x.person(p, what)).append(' ');
            }
        }
        return row.append(": ").append(x.later(3, 3)).append(' ').append(x.later(3, 4)).toString();
    }

    /** Where the rows differ: "c" a count, "p" one of PEOPLE, the what, and what it is in the second one. */
    private static String differences(String row, String other) {
        String[] these = row.split(" : ");
        String[] those = other.split(" : ");
        StringBuilder all = new StringBuilder();
        for (int part = 0; part < these.length - 1; part++) {
            String[] a = these[part].split(" ");
            String[] b = those[part].split(" ");
            for (int what = 0; what < a.length; what++) {
                if (!a[what].equals(b[what])) {
                    all.append(part == 0 ? "c" : "p" + (part - 1) + ".").append(what).append('=').append(b[what]).append(' ');
                }
            }
        }
        return all.toString().trim();
    }

    private static String seen(GivenMinutes x) {
        return x.count(10) + " : " + x.fast(0) + " " + x.fast(1) + " " + x.fast(2);
    }

    private static String acts(GivenMinutes x) {
        StringBuilder rows = new StringBuilder().append(x.count(9));
        for (int n = 0; n <= MOST_ACTS && x.undo() != GivenMinutes.NONE; n++) {
            rows.append("\n  ").append(now(x));
        }
        return rows.toString();
    }

    /** It spends the object: ACTS are UNDONE, the image is restored, the tape is read. */
    private static Map<String, String> all(GivenMinutes x) {
        Map<String, String> parts = new LinkedHashMap<>();
        parts.put("status", Check.status(x));
        parts.put("fault", "" + x.fault());
        parts.put("now", now(x));
        parts.put("seen", seen(x));
        parts.put("acts", acts(x));
        parts.put("image", "" + x.restore());
        parts.put("image status", Check.status(x));
        parts.put("image now", now(x));
        parts.put("image seen", seen(x));
        parts.put("image acts", acts(x));
        parts.put("tape", x.count(11) + " " + x.quay(x.count(11)) + " " + now(x));
        return parts;
    }

    /** All parts but those told are of one object as of another one. */
    private static void same(String what, GivenMinutes x, GivenMinutes like, String... but) {
        Map<String, String> got = all(x);
        Map<String, String> want = all(like);
        for (String part : want.keySet()) {
            if (!List.of(but).contains(part)) {
                CHECK.due(what + ": " + part, got.get(part), want.get(part));
            }
        }
    }

    /** It changes nothing, or no more than the parts told. */
    private static void keeps(String what, Consumer<GivenMinutes> call, String... but) {
        keepsAll(what, EffectsTest::busy, call, but);
    }

    private static void keepsAll(String what, Supplier<GivenMinutes> make, Consumer<GivenMinutes> call, String... but) {
        CALLED.add(what.replaceAll("[ ,].*", ""));
        GivenMinutes x = make.get();
        call.accept(x);
        same(what, x, make.get(), but);
    }

    /** What is so of busy(), written out: else a call that it is made by could change more unseen. */
    private static void busyIs() {
        Map<String, String> got = all(busy());
        for (String[] part : BUSY) {
            CHECK.due("busy " + part[0], got.get(part[0]), part[1]);
        }
    }

    // ==== Questions

    private static void questions() {
        keeps("fault", x -> x.fault());
        for (int what = 0; what < 15; what++) {
            int n = what;
            keeps("count " + n, x -> x.count(n));
        }
        for (int what = 0; what < 9; what++) {
            int n = what;
            keeps("person " + n, x -> x.person(1, n));
        }
        for (int what = 0; what < 5; what++) {
            int n = what;
            keeps("later " + n, x -> x.later(60, n));
        }
        for (int what = 0; what < 2; what++) {
            int n = what;
            keeps("then " + n, x -> x.then(1, 60, n));
            keeps("toSet " + n, x -> x.toSet(1, 9, n));
            keeps("pairs " + n, x -> x.pairs(n));
            keeps("look " + n, x -> x.look(n));
            keeps("game " + n, x -> x.game(0, 1, n));
        }
        for (int what = 0; what < 3; what++) {
            int n = what;
            keeps("fast " + n, x -> x.fast(n));
            keeps("years " + n, x -> x.years(7, 60, n));
        }
        keeps("asked", x -> x.asked(0, 60));
        keeps("spent", x -> x.spent(0));
        keeps("busiest", x -> x.busiest(60));
        keeps("robbed", x -> x.robbed(1, 0, 60));
        keeps("toStay", x -> x.toStay(1, 60));
        keeps("toLast", x -> x.toLast(0, 60));
        keeps("toLast none", x -> x.toLast(1, 60));
        keeps("gained", x -> x.gained(0, 60));
        keeps("silent", x -> x.silent(60));
        keeps("fog", x -> x.fog(0, 5, 5));
    }

    private static void questionsOfPlaces() {
        keeps("meet", x -> x.meet(0, 1));
        keeps("meet none", x -> x.meet(1, 1));
        keeps("often", x -> x.often(0, 1, 60));
        keeps("crowd", x -> x.crowd(60));
        keeps("where", x -> x.where(1, 60));
        keeps("watch", x -> x.watch(60));
        keeps("pair", x -> x.pair(1));
        keeps("shows", x -> x.shows(1, 60));
        keeps("alike", x -> x.alike());
    }

    // ==== ACTS

    /** What an ACT changes is so as ahead of it, when it is UNDONE. */
    private static void acts() {
        keeps("steps 3", x -> x.steps(3), "now", "acts", "seen");
        keeps("set 2 5", x -> x.set(2, 5), "now", "acts", "seen");
        keeps("give 1 5", x -> x.give(1, 5), "now", "acts", "seen");
        keeps("stop false", x -> x.stop(false), "now", "acts", "seen");
        keeps("stay 2 true", x -> x.stay(2, true), "now", "acts", "seen");
        keeps("undo", x -> x.undo(), "now", "acts", "seen");
        undone("steps", x -> x.steps(1), "c2=3 c7=471 c8=0 p0.0=28 p0.4=1 p0.8=0 p1.0=306 p1.4=0 p2.0=137 p2.4=3 p2.8=0");
        undone("set", x -> x.set(2, 5), "p2.1=5 p2.2=55");
        undone("give", x -> x.give(1, 100), "c7=574 p1.0=407");
        undone("stop", x -> x.stop(false), "c4=0");
        undone("stay", x -> x.stay(2, true), "c6=5 p2.7=1");
        undone("stay no more", x -> x.stay(0, false), "c6=0 p0.7=0");
    }

    private static void undone(String what, Consumer<GivenMinutes> act, String changes) {
        keeps(what + ", undone", act.andThen(x -> CHECK.due(what + ": ACTS ahead of it", x.undo(), 5)));
        GivenMinutes x = busy();
        String ahead = now(x);
        act.accept(x);
        CHECK.due(what + ": ACTS", x.count(9), 6);
        CHECK.due(what + " changes", differences(ahead, now(x)), changes);
    }

    private static void refused() {
        keeps("steps 21", x -> x.steps(21), "status");
        keeps("set 60", x -> x.set(2, 60), "status");
        keeps("give 101", x -> x.give(2, 101), "status");
        keeps("stop again", x -> x.stop(true), "status");
        keeps("stay again", x -> x.stay(0, true), "status");
        keeps("see 21", x -> x.see(0, 21, 0), "status");
        keepsAll("undo none", GivenMinutes::new, x -> x.undo());
        keepsAll("restore none", GivenMinutes::new, x -> x.restore());
        keepsAll("feed too much", EffectsTest::full, x -> x.feed(0, 0, 0, 0, 0));
        keepsAll("quay too much", EffectsTest::full, x -> CHECK.illegal("too much", () -> x.quay(701)));
    }

    private static GivenMinutes full() {
        GivenMinutes x = busy();
        for (int n = 0; n < 40; n++) {
            x.feed(0x20202020, 0x20202020, 0x20202020, 0x20202020, 0x20202020);
        }
        return x;
    }

    // ==== What is SEEN, the image, the tape

    private static void seenAndForgotten() {
        keeps("see", x -> x.see(2, 0, x.person(2, 0)), "seen");
        keeps("forget", x -> x.forget(), "seen");
        GivenMinutes x = busy();
        x.forget();
        CHECK.due("forgotten", seen(x), "0 : 177 0 1");
    }

    private static void imaged() {
        keeps("image", x -> x.image(), "image status", "image now", "image seen", "image acts");
        GivenMinutes x = busy();
        x.image();
        Map<String, String> got = all(x);
        for (String part : List.of("status", "now", "seen", "acts")) {
            CHECK.due("image of " + part, got.get("image " + part), got.get(part));
        }
    }

    private static void restored() {
        keeps("restore", x -> x.restore(), "status", "now", "seen", "acts");
        GivenMinutes x = busy();
        x.restore();
        Map<String, String> got = all(x);
        for (String part : List.of("status", "now", "seen", "acts")) {
            CHECK.due("restored " + part, got.get(part), got.get("image " + part));
        }
        keeps("restore between image and ACTS", y -> {
            y.restore();
            behind(y);
        });
    }

    private static void tape() {
        keeps("feed", x -> x.feed(1, 2, 3, 4, 5), "tape");
        GivenMinutes x = busy();
        x.feed(0x6d697365, 0x72203b20, 0, 0, 0);
        CHECK.due("behind what there was", x.quay(68), 1);
        CHECK.due("there", x.fault(), 66);
        keeps("quay of a FAULT", y -> y.quay(9), "status", "fault", "tape");
        GivenMinutes y = busy();
        y.quay(9);
        CHECK.due("FAULT, ACTS, SEEN", Check.status(y), "3 2 1");
        CHECK.due("its place", y.fault(), 9);
        CHECK.due("nothing is on the tape", all(y).get("tape"), "0 0 3 0 0 0 0 0 0 0 0 : 0 0");
    }

    /** A good text: what it tells, no ACTS, nothing SEEN, no image; STATUS stays. */
    private static void allAnew() {
        CALLED.add("quay");
        GivenMinutes x = busy();
        x.quay(NEXT_TEXT.length());
        GivenMinutes like = new GivenMinutes();
        Check.tell(like, NEXT_TEXT);
        CHECK.due("STATUS stays", Check.status(x), "2 2 1");
        same("all anew", x, like, "status", "image status");
    }

    private static void allAreCalled() {
        Set<String> face = new TreeSet<>();
        for (java.lang.reflect.Method m : GivenMinutes.class.getDeclaredMethods()) {
            if (java.lang.reflect.Modifier.isPublic(m.getModifiers())) {
                face.add(m.getName());
            }
        }
        CHECK.due("calls", CALLED.toString(), face.toString());
    }

    public static void main(String[] args) {
        busyIs();
        questions();
        questionsOfPlaces();
        acts();
        refused();
        seenAndForgotten();
        imaged();
        restored();
        tape();
        allAnew();
        allAreCalled();
        CHECK.end();
    }
}
