import java.lang.reflect.InvocationTargetException;
import java.lang.reflect.Method;
import java.util.ArrayList;
import java.util.Arrays;
import java.util.Comparator;
import java.util.List;
import java.util.Random;

/** Runs of calls by seeds, on the class and on the Model: each answer, and each exception, must be the same. */
public final class RandomRunsTest {
    private static final int RUNS = 500;
    private static final int CALLS = 240;
    /** Of 512 that an object is good for; a text, told at once, takes up to 37. */
    private static final int MOST_CALLS = 470;
    private static final String ODD = "0123456789;()+-*/<= notabc\u00e9A\t";
    private final Random random;
    private final GivenMinutes real = new GivenMinutes();
    private final Model model = new Model();
    private final List<String> log = new ArrayList<>();
    private final List<Method> methods = new ArrayList<>();

    private RandomRunsTest(long seed) {
        random = new Random(seed);
        for (Method m : GivenMinutes.class.getDeclaredMethods()) {
            if (java.lang.reflect.Modifier.isPublic(m.getModifiers())) {
                methods.add(m);
            }
        }
        methods.sort(Comparator.comparing(Method::getName));
    }

    private int below(int n) { return random.nextInt(n); }
    private boolean rarely(int n) { return below(n) == 0; }
    private String pick(String... some) { return some[below(some.length)]; }

    // ---- texts

    private String expr(int depth, boolean says) {
        int kind = below(depth > 4 ? 3 : 12);
        if (kind < 1) return "" + (rarely(4) ? below(10000) : below(70));
        if (kind < 3) return says ? pick("left", "shown", "mean", "company", "step", "theirs", "given")
            : pick("left", "shown", "mean", "company", "step");
        if (kind < 5) return "(" + expr(depth + 1, says) + ")";
        if (kind < 6) return "not " + expr(depth + 1, says);
        return expr(depth + 1, says) + pick(" + ", "-", "*", "/ ", " < ", "=", " and ", " or ") + expr(depth + 1, says);
    }
    private String text() {
        StringBuilder t = new StringBuilder();
        int corners = 3;
        if (!rarely(3)) { corners = 2 + below(5); t.append("corners ").append(corners).append(";\n"); }
        int people = rarely(8) ? below(10) : 2 + below(7);
        boolean poor = rarely(3);
        for (int p = 0; p < people; p++) {
            t.append(pick("person ", "person ", "person ", "miser ")).append(below(poor ? 8 : rarely(4) ? 1000 : 150));
            t.append(' ').append(rarely(3) ? 30 : below(60)).append(' ').append(below(10));
            for (int n = 1 + below(rarely(2) ? 6 : 2); n > 0; n--) t.append(' ').append(below(corners));
            t.append(';');
        }
        if (rarely(2)) t.append("clock ").append(below(60)).append(';');
        if (rarely(2)) t.append("asks ").append(rarely(2) ? "1" : expr(0, false)).append(';');
        if (rarely(2)) t.append("says ").append(expr(0, true)).append(';');
        return t.toString();
    }
    private String spoilt(String text) {
        StringBuilder t = new StringBuilder(text);
        for (int n = 1 + below(2); n > 0 && t.length() > 0; n--) {
            int at = below(t.length());
            int kind = below(5);
            if (kind == 0) t.deleteCharAt(at);
            if (kind == 1) t.setCharAt(at, ODD.charAt(below(ODD.length())));
            if (kind == 2) t.insert(at, pick("not ", "(", ")", ";", " ", "12345", "7", "9", "corners 3;", "clock 3;", "asks 1;",
                "says given;", "theirs", "and ", " or ", "person 1 2 3 0;", "miser", "<", "x"));
            if (kind == 3) t.setLength(at);
            if (kind == 4) t.insert(t.indexOf(";") + 1, pick("asks ((((((1))))));", "asks not not not not not not not 1;",
                "says (((((1)))));", "asks not not not not not not left;", "asks ((((((not 1))))));", "asks 1<2<3;",
                "person 1 2 3 0 1 0 1 0 1 0;", "asks 1 + not 1;", "says left left;", "asks not(1<left)=2;", "says 1;says 2;"));
        }
        return t.toString();
    }
    private void tell() {
        String t = rarely(3) ? spoilt(text()) : text();
        if (t.length() > 700) t = t.substring(0, 700);
        call("text", t);
        int[] row = new int[5];
        for (int at = 0; at < t.length(); at += 20) {
            for (int k = 0; k < 20; k++) {
                int c = at + k < t.length() ? t.charAt(at + k) : ' ';
                row[k / 4] = row[k / 4] << 8 | c;
            }
            same("feed", new Object[] {row[0], row[1], row[2], row[3], row[4]});
        }
        same("quay", new Object[] {t.length()});
        same("fault", new Object[0]);
    }
    private void call(String name, Object args) { log.add(name + " " + args); }

    // ---- calls

    private Object argument(Class<?> type, String name) {
        if (type == boolean.class) return random.nextBoolean();
        if (rarely(60)) return new int[] {Integer.MIN_VALUE, Integer.MAX_VALUE, -1, 61, 60, 1000, 1 << 31 - 1}[below(7)];
        int people = Math.max(1, model.count(1));
        switch (name) {
            case "person": case "other": return rarely(25) ? below(10) - 1 : below(people);
            case "steps": return rarely(2) ? below(63) - 1 : 1 + below(6);
            case "k": return below(62);
            case "many": return rarely(8) ? below(24) - 1 : 1 + below(4);
            case "watch": return below(61);
            case "minutes": return below(102);
            case "left": return rarely(2) ? below(1001) : below(100);
            case "what": return rarely(6) ? below(8) - 1 : below(3);
            case "tenths": return below(12) - (rarely(9) ? 1 : 0);
            case "n": return below(62);
            default: return random.nextInt();
        }
    }
    private static Object answer(Object on, String name, Class<?>[] types, Object[] args) {
        try {
            return on.getClass().getMethod(name, types).invoke(on, args);
        } catch (InvocationTargetException e) {
            return e.getCause().getClass().getName();
        } catch (ReflectiveOperationException e) {
            throw new IllegalStateException(e);
        }
    }
    private void same(String name, Object[] args) {
        Class<?>[] types = new Class<?>[args.length];
        for (int i = 0; i < types.length; i++) types[i] = args[i] instanceof Boolean ? boolean.class : int.class;
        Object want = answer(model, name, types, args);
        Object got = answer(real, name, types, args);
        call(name, Arrays.toString(args) + " -> " + got);
        if (want == null ? got != null : !want.equals(got)) {
            throw new IllegalStateException(name + Arrays.toString(args) + " answered " + got + ", due is " + want);
        }
    }
    private void seeWhatIsSo() {
        int people = model.count(1);
        if (people == 0) return;
        int p = below(people), steps = below(7);
        int left = model.then(p, steps, 0);
        if (rarely(2)) {
            left = Math.max(0, left + below(5) - 2);
        }
        same("see", new Object[] {p, steps, left});
    }
    private void callAny() {
        Method m = methods.get(below(methods.size()));
        if (m.getName().equals("quay") && !rarely(20) || m.getName().equals("feed") && !rarely(4)) return;
        Object[] args = new Object[m.getParameterCount()];
        for (int i = 0; i < args.length; i++) args[i] = argument(m.getParameterTypes()[i], m.getParameters()[i].getName());
        same(m.getName(), args);
    }
    private void run() {
        if (!rarely(10)) tell();
        for (int n = 0; n < CALLS && log.size() < MOST_CALLS; n++) {
            if (rarely(30)) tell();
            else if (rarely(12)) seeWhatIsSo();
            else if (rarely(9)) same("steps", new Object[] {1 + below(rarely(6) ? 20 : 3)});
            else if (rarely(30)) same("undo", new Object[0]);
            else callAny();
            if (rarely(3)) same("count", new Object[] {below(15)});
            if (rarely(3)) same("person", new Object[] {below(8), below(9)});
        }
    }

    public static void main(String[] args) {
        long first = args.length > 0 ? Long.parseLong(args[0]) : 0;
        int runs = args.length > 1 ? Integer.parseInt(args[1]) : RUNS;
        for (long seed = first; seed < first + runs; seed++) {
            RandomRunsTest test = new RandomRunsTest(seed);
            try {
                test.run();
            } catch (RuntimeException e) {
                test.log.forEach(System.out::println);
                System.out.println("seed " + seed + ": " + e);
                System.exit(1);
            }
        }
        System.out.println(runs + " runs are alike");
    }
}
