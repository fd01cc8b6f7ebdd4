import java.io.IOException;
import java.lang.reflect.InvocationTargetException;
import java.lang.reflect.Method;
import java.nio.file.Files;
import java.nio.file.Path;
import java.util.ArrayList;
import java.util.Arrays;
import java.util.List;
import java.util.Set;
import java.util.TreeSet;
import java.util.regex.Matcher;
import java.util.regex.Pattern;

/**
 * All calls that throw, by all arguments at their bounds and one step to each side: which exception comes, which of two
 * comes first, and that all stays as it was. Also that the face is the one of the document.
 */
public final class WrongInputsTest {
    private static final Check CHECK = new Check();
    private static final String NO_SUCH = "java.util.NoSuchElementException";
    private static final String ILLEGAL = "java.lang.IllegalArgumentException";

    /** Of each call its arguments: p a PERSON, w a what below so many, r a number from .. to, i any int. */
    private static final String[] CALLS = {
        "count w15", "person p w9", "then p r0,60 w2", "asked p r1,60", "spent p", "later r0,60 w5", "busiest r1,60", "robbed p p r0,60",
        "meet p p", "often p p r1,60", "crowd r1,60", "where p r1,60", "watch r1,60", "toSet p r1,60 w2", "toStay p r1,60",
        "toLast p r1,60", "pairs w2", "pair p", "gained p r0,60", "shows p r1,60", "alike", "silent r1,60", "fast w3", "look w2",
        "fog p r1,5 r0,10", "game p p w2", "years i r0,60 w3", "fault"};
    private static final int AT_ONCE = 54;
    private static final String PERSON = "person 700 41 2 0 1;";

    /** People, rules, ACTS, an image, what is SEEN, STATUS: all that a question must leave as it is. */
    private static GivenMinutes busy(int people) {
        GivenMinutes x = CHECK.quay("clock 8;" + PERSON.repeat(people) + "asks left<710;says shown/9;");
        Check.tell(x, "clock 60;");
        x.steps(0);
        x.steps(2);
        if (people > 0) {
            x.see(people - 1, 1, 697);
            x.see(0, 21, 5);
            x.set(0, 5);
        }
        x.image();
        x.stop(true);
        x.feed(0, 0, 0, 0, 0);
        return x;
    }

    private static int[] values(String kind, int people) {
        int least = 0;
        int most = 0;
        switch (kind.charAt(0)) {
            case 'p': most = people - 1; break;
            case 'w': most = Integer.parseInt(kind.substring(1)) - 1; break;
            case 'r':
                least = Integer.parseInt(kind.substring(1, kind.indexOf(',')));
                most = Integer.parseInt(kind.substring(kind.indexOf(',') + 1));
                break;
            default: return new int[] {0, Integer.MIN_VALUE, Integer.MAX_VALUE};
        }
        return new int[] {Integer.MIN_VALUE, least - 1, least, most, most + 1, Integer.MAX_VALUE};
    }

    /** Which exception is due: no such PERSON or what comes ahead of a number out of its bounds. */
    private static String due(String name, String[] kinds, Object[] args, int people) {
        boolean isNoSuch = false;
        boolean isIllegal = name.equals("game") && args[0].equals(args[1]);
        for (int i = 0; i < kinds.length; i++) {
            int[] v = values(kinds[i], people);
            int n = (Integer) args[i];
            boolean isOut = kinds[i].charAt(0) != 'i' && (n < v[2] || n > v[3]);
            isNoSuch |= isOut && kinds[i].charAt(0) != 'r';
            isIllegal |= isOut && kinds[i].charAt(0) == 'r';
        }
        return isNoSuch ? NO_SUCH : isIllegal ? ILLEGAL : "nothing";
    }

    private static String thrownBy(Method m, GivenMinutes x, Object[] args) {
        try {
            m.invoke(x, args);
            return "nothing";
        } catch (InvocationTargetException e) {
            return e.getCause().getClass().getName();
        } catch (IllegalAccessException e) {
            throw new IllegalStateException(e);
        }
    }

    private static void allArguments(String call, int people) {
        String name = call.replaceAll(" .*", "");
        String[] kinds = call.equals(name) ? new String[0] : call.substring(name.length() + 1).split(" ");
        Method m = Arrays.stream(GivenMinutes.class.getMethods()).filter(f -> f.getName().equals(name)).findFirst().orElseThrow();
        CHECK.due("arguments of " + call, m.getParameterCount(), kinds.length);
        int all = 1;
        for (String kind : kinds) {
            all *= values(kind, people).length;
        }
        // An object is good for 512 calls.
        for (int from = 0; from < all; from += AT_ONCE) {
            GivenMinutes x = busy(people);
            GivenMinutes like = busy(people);
            String told = Check.told(x) + Check.status(x);
            for (int n = from; n < all && n < from + AT_ONCE; n++) {
                Object[] args = arguments(kinds, people, n);
                String what = name + Arrays.toString(args) + " of " + people + " PEOPLE throws";
                CHECK.due(what, thrownBy(m, x, args), due(name, kinds, args, people));
            }
            CHECK.due("all stays behind " + name, Check.told(x) + Check.status(x), told);
            CHECK.due("ACTS and image stay behind " + name, Check.whole(x), Check.whole(like));
        }
    }

    /** The n-th row of arguments, of all that there are. */
    private static Object[] arguments(String[] kinds, int people, int n) {
        Object[] args = new Object[kinds.length];
        int rest = n;
        for (int i = 0; i < kinds.length; i++) {
            int[] v = values(kinds[i], people);
            args[i] = v[rest % v.length];
            rest /= v.length;
        }
        return args;
    }

    // ==== The face

    private static String withoutBlanks(String row) {
        return row.replaceAll("\\s+", " ").trim();
    }

    private static String faceOf(Method m) {
        StringBuilder row = new StringBuilder("public " + m.getReturnType().getSimpleName() + " " + m.getName() + "(");
        for (int i = 0; i < m.getParameterCount(); i++) {
            row.append(i == 0 ? "" : ", ").append(m.getParameterTypes()[i].getSimpleName()).append(' ').append(m.getParameters()[i].getName());
        }
        row.append(")");
        for (int i = 0; i < m.getExceptionTypes().length; i++) {
            row.append(i == 0 ? " throws " : ", ").append(m.getExceptionTypes()[i].getSimpleName());
        }
        return row + ";";
    }

    private static void face() throws IOException {
        String document = Files.readString(Path.of("../shared/DOC.md"));
        Matcher m = Pattern.compile("public final class GivenMinutes \\{(.*?)\n\\}", Pattern.DOTALL).matcher(document);
        CHECK.due("the document has a face", m.find(), true);
        Set<String> want = new TreeSet<>();
        for (String row : m.group(1).split("\n")) {
            if (row.contains("(") && !row.contains("GivenMinutes(")) {
                want.add(withoutBlanks(row));
            }
        }
        List<String> got = new ArrayList<>();
        for (Method f : GivenMinutes.class.getDeclaredMethods()) {
            if (java.lang.reflect.Modifier.isPublic(f.getModifiers())) {
                got.add(faceOf(f));
            }
        }
        CHECK.due("the face", String.join("\n  ", new TreeSet<>(got)), String.join("\n  ", want));
        CHECK.due("NONE", GivenMinutes.NONE, -1);
    }

    /** All calls of the face that throw stand in CALLS, or take bytes or ACTS. */
    private static void allAreLookedAt() {
        Set<String> names = new TreeSet<>(List.of("feed", "quay", "steps", "set", "give", "stop", "stay", "undo", "see", "forget", "image",
            "restore"));
        for (String call : CALLS) {
            names.add(call.replaceAll(" .*", ""));
        }
        Set<String> face = new TreeSet<>();
        for (Method f : GivenMinutes.class.getDeclaredMethods()) {
            if (java.lang.reflect.Modifier.isPublic(f.getModifiers())) {
                face.add(f.getName());
            }
        }
        CHECK.due("calls", names.toString(), face.toString());
    }

    public static void main(String[] args) throws IOException {
        for (String call : CALLS) {
            for (int people : new int[] {0, 1, 2, 8}) {
                allArguments(call, people);
            }
        }
        face();
        allAreLookedAt();
        CHECK.end();
    }
}
