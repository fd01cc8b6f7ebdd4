import java.util.NoSuchElementException;

/** What the tests share: texts put on the tape, answers compared, exceptions awaited. */
final class Check {
    private int wrong = 0;
    private int asked = 0;

    /** A new object that was told this text, which must be without a FAULT. */
    GivenMinutes quay(String text) {
        GivenMinutes x = new GivenMinutes();
        due("quay: " + text, tell(x, text), 0);
        return x;
    }

    static int tell(GivenMinutes x, String text) {
        feed(x, text);
        return x.quay(text.length());
    }

    static void feed(GivenMinutes x, String text) {
        int[] row = new int[5];
        for (int at = 0; at < text.length(); at += 20) {
            for (int k = 0; k < 20; k++) {
                int c = at + k < text.length() ? text.charAt(at + k) : ' ';
                row[k / 4] = row[k / 4] << 8 | c;
            }
            x.feed(row[0], row[1], row[2], row[3], row[4]);
        }
    }

    void due(String what, int got, int want) {
        asked++;
        if (got != want) {
            wrong++;
            System.out.println(what + " answered " + got + ", due is " + want);
        }
    }

    void due(String what, boolean got, boolean want) {
        due(what, got ? 1 : 0, want ? 1 : 0);
    }

    private static String thrownBy(Runnable call) {
        try {
            call.run();
            return "nothing";
        } catch (RuntimeException e) {
            return e.getClass().getName();
        }
    }

    void noSuch(String what, Runnable call) {
        throwsOne(what, thrownBy(call), NoSuchElementException.class);
    }

    void illegal(String what, Runnable call) {
        throwsOne(what, thrownBy(call), IllegalArgumentException.class);
    }

    private void throwsOne(String what, String got, Class<?> want) {
        asked++;
        if (!got.equals(want.getName())) {
            wrong++;
            System.out.println(what + " throws " + got + ", due is " + want.getName());
        }
    }

    void end() {
        System.out.println(asked + " answers, " + wrong + " wrong");
        if (wrong != 0) {
            System.exit(1);
        }
    }
}
