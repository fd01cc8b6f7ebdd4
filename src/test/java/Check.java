import java.util.NoSuchElementException;
import java.util.function.Supplier;
import java.util.function.ToIntFunction;

/** What the tests share: texts put on the tape, answers compared, exceptions awaited, what must stay looked at. */
final class Check {
    private static final int MOST_ACTS = 40;
    /** LEFT, the WATCH, GIVEN: who STAYS IN is told of by count(). */
    private static final int[] WHAT_MAY_CHANGE = {0, 1, 5};
    private int wrong = 0;
    private int asked = 0;

    /** A new object that was told this text, which must be without a FAULT. */
    GivenMinutes quay(String text) {
        GivenMinutes x = new GivenMinutes();
        due("quay: " + text, tell(x, text), 0);
        return x;
    }

    static int tell(GivenMinutes x, String text) {
        feed(x, text);
        return x.quay(text.length());
    }

    static void feed(GivenMinutes x, String text) {
        int[] row = new int[5];
        for (int at = 0; at < text.length(); at += 20) {
            for (int k = 0; k < 20; k++) {
                int c = at + k < text.length() ? text.charAt(at + k) : ' ';
                row[k / 4] = row[k / 4] << 8 | c;
            }
            x.feed(row[0], row[1], row[2], row[3], row[4]);
        }
    }

    /** The FAULT of a text is due at the place where '^' stands in it. */
    void fault(int code, String marked) {
        int place = marked.indexOf('^');
        String text = marked.replace("^", "");
        GivenMinutes x = new GivenMinutes();
        due("quay " + text, tell(x, text), code);
        due("fault " + text, x.fault(), place);
        due("status " + text, x.count(12), 1);
        due("tape " + text, x.count(11), 0);
    }

    void fine(String text) {
        GivenMinutes x = new GivenMinutes();
        due("quay " + text, tell(x, text), 0);
        due("fault " + text, x.fault(), -1);
        due("status " + text, x.count(12), 0);
    }

    void due(String what, int got, int want) {
        asked++;
        if (got != want) {
            wrong++;
            System.out.println(what + " answered " + got + ", due is " + want);
        }
    }

    void due(String what, boolean got, boolean want) {
        due(what, got ? 1 : 0, want ? 1 : 0);
    }

    void due(String what, String got, String want) {
        asked++;
        if (!got.equals(want)) {
            wrong++;
            System.out.println(what + " answered\n  " + got + ", due is\n  " + want);
        }
    }

    // ==== What stays

    /** All that is so now, but for STATUS: asking for it changes nothing. */
    static String told(GivenMinutes x) {
        StringBuilder row = new StringBuilder();
        for (int what = 0; what < 12; what++) {
            row.append(x.count(what)).append(' ');
        }
        row.append(x.fault());
        int people = x.count(1);
        for (int p = 0; p < people; p++) {
            for (int what : WHAT_MAY_CHANGE) {
                row.append(what == WHAT_MAY_CHANGE[0] ? " : " : " ").append(x.person(p, what));
            }
        }
        row.append(" : ").append(x.later(3, 3)).append(' ').append(x.later(3, 4));
        return row.append(" : ").append(x.fast(0)).append(' ').append(x.fast(1)).append(' ').append(x.fast(2)).toString();
    }

    static String status(GivenMinutes x) {
        return x.count(12) + " " + x.count(13) + " " + x.count(14);
    }

    private static String toldBackwards(GivenMinutes x) {
        StringBuilder rows = new StringBuilder(told(x));
        for (int n = 0; n <= MOST_ACTS && x.undo() != GivenMinutes.NONE; n++) {
            rows.append("\n  ").append(told(x));
        }
        return rows.toString();
    }

    /** What is so now, what each ACT, UNDONE, brings back, and what the image does; it spends the object. */
    static String whole(GivenMinutes x) {
        String now = toldBackwards(x);
        return now + "\n  image " + x.restore() + " " + status(x) + "\n  " + toldBackwards(x);
    }

    /** Of two objects made alike one is called, and all stays as it was, but that one more is counted in STATUS (-1: none). */
    void stays(String what, Supplier<GivenMinutes> make, ToIntFunction<GivenMinutes> call, int want, int counted) {
        GivenMinutes x = make.get();
        GivenMinutes like = make.get();
        String before = told(x);
        int[] counts = {x.count(12), x.count(13), x.count(14)};
        due(what, call.applyAsInt(x), want);
        due(what + ": what stays", told(x), before);
        for (int n = 0; n < counts.length; n++) {
            due(what + ": STATUS " + n, x.count(12 + n), counts[n] + (n == counted ? 1 : 0));
        }
        due(what + ": all that stays", whole(x), whole(like));
    }

    /** The same of a call that throws. */
    void staysAndThrows(String what, Supplier<GivenMinutes> make, ToIntFunction<GivenMinutes> call, Class<?> want) {
        stays(what, make, x -> {
            throwsOne(what, thrownBy(() -> call.applyAsInt(x)), want);
            return 0;
        }, 0, -1);
    }

    // ==== What throws

    static String thrownBy(Runnable call) {
        try {
            call.run();
            return "nothing";
        } catch (RuntimeException e) {
            return e.getClass().getName();
        }
    }

    void noSuch(String what, Runnable call) {
        throwsOne(what, thrownBy(call), NoSuchElementException.class);
    }

    void illegal(String what, Runnable call) {
        throwsOne(what, thrownBy(call), IllegalArgumentException.class);
    }

    private void throwsOne(String what, String got, Class<?> want) {
        asked++;
        if (!got.equals(want.getName())) {
            wrong++;
            System.out.println(what + " throws " + got + ", due is " + want.getName());
        }
    }

    void end() {
        System.out.println(asked + " answers, " + wrong + " wrong");
        if (wrong != 0) {
            System.exit(1);
        }
    }
}
