import java.util.ArrayDeque;
import java.util.ArrayList;
import java.util.Arrays;
import java.util.Comparator;
import java.util.Deque;
import java.util.HashMap;
import java.util.HashSet;
import java.util.List;
import java.util.Map;
import java.util.NoSuchElementException;
import java.util.Set;
import java.util.TreeSet;
import java.util.function.ToIntFunction;
import java.util.regex.Matcher;
import java.util.regex.Pattern;

/** The document once more, written in another way: what the class answers is compared with it. */
public final class Model {
    static final int NONE = -1;

    /** Who asks, or says, in which world. */
    static final class Sight {
        World world; Person one; Person asking;
        Sight(World world, Person one, Person asking) { this.world = world; this.one = one; this.asking = asking; }
    }

    interface Expr extends ToIntFunction<Sight> { }

    static final class Person {
        final int number; int left, watch, mean, given; boolean miser, stays; final List<Integer> walk = new ArrayList<>();
        Person(int number) { this.number = number; }
        Person copy() {
            Person p = new Person(number);
            p.left = left; p.watch = watch; p.mean = mean; p.given = given; p.miser = miser; p.stays = stays;
            p.walk.addAll(walk);
            return p;
        }
    }

    /** One STEP as it was seen: {asking, asked, minutes} for each who asked. */
    static final class World {
        int corners = 3, clock, step; boolean stopped; Expr asks, says;
        List<Person> people = new ArrayList<>();
        List<int[]> talks = new ArrayList<>();

        World copy() {
            World w = new World();
            w.corners = corners; w.clock = clock; w.step = step; w.stopped = stopped; w.asks = asks; w.says = says;
            for (Person p : people) w.people.add(p.copy());
            return w;
        }
        int corner(Person p, int t) { return p.walk.get(t % p.walk.size()); }
        int corner(Person p) { return corner(p, step); }
        int shows(Person p) { int m = clock + p.watch - 30; while (m < 0) m += 60; while (m > 59) m -= 60; return m; }
        List<Person> others(Person p) {
            List<Person> found = new ArrayList<>();
            for (Person q : people) if (q != p && corner(q) == corner(p)) found.add(q);
            return found;
        }
        int says(Person p, Person asking) {
            if (p.miser) return Math.max(0, shows(p) / 15 - p.mean);
            if (says == null) return shows(p);
            int m = says.applyAsInt(new Sight(this, p, asking));
            return m < 0 ? 0 : m > 59 ? 59 : m;
        }
        World step(boolean fog) {
            talks.clear();
            for (Person p : people) {
                if (fog || p.left == 0 || p.stays) continue;
                List<Person> company = others(p);
                company.removeIf(q -> q.left == 0 || q.stays);
                if (company.isEmpty()) continue;
                boolean does = asks == null ? p.left <= 60 : asks.applyAsInt(new Sight(this, p, p)) > 0;
                if (!does) continue;
                Person q = company.stream().max(Comparator.comparingInt((Person c) -> c.left).thenComparingInt(c -> -c.number)).get();
                int minutes = Math.min(says(q, p), q.left);
                q.left -= minutes;
                q.given = Math.min(9999, q.given + minutes);
                p.left = Math.min(999, p.left + minutes);
                talks.add(new int[] {p.number, q.number, minutes});
            }
            for (Person p : people) if (p.left > 0) p.left--;
            step++;
            if (!stopped) clock = (clock + 5) % 60;
            return this;
        }
        World steps(int n) { for (int k = 0; k < n; k++) step(false); return this; }
        int total() { return people.stream().mapToInt(p -> p.left).sum(); }
        int alive() { return people.stream().filter(p -> p.left > 0).mapToInt(p -> 1 << p.number).sum(); }
        int minutes() { return talks.stream().mapToInt(t -> t[2]).sum(); }
    }

    private final List<Integer> tape = new ArrayList<>();
    private World now = new World();
    private List<World> acts = new ArrayList<>();
    private List<int[]> seen = new ArrayList<>();
    private int[] status = new int[3];
    private int fault = NONE;
    private Object[] image;

    // ---- the text, by a stack of waiting signs instead of a descent

    static final class Fault extends Exception {
        static final long serialVersionUID = 1;
        final int code, place;
        Fault(int code, int place) { this.code = code; this.place = place; }
    }

    static final class Reading {
        final List<String> tokens = new ArrayList<>();
        final List<Integer> places = new ArrayList<>();
        int i = 0;
        final World world = new World();
        final Set<String> told = new HashSet<>();
        private static final Pattern TOKEN = Pattern.compile("[a-z]+|[0-9]+|[^ \n]", Pattern.DOTALL);

        Reading(String text) {
            Matcher m = TOKEN.matcher(text);
            while (m.find()) { tokens.add(m.group()); places.add(m.start()); }
            tokens.add(""); places.add(text.length());
        }
        String token() { return tokens.get(i); }
        Fault fault(int code) { return new Fault(code, places.get(i)); }
        void sign(String s) throws Fault { if (!token().equals(s)) throw fault(1); i++; }
        int number(int most, int tooMuch, boolean isTooMuch) throws Fault {
            if (!token().matches("[0-9]+")) throw fault(1);
            if (isTooMuch || token().length() > 4) throw fault(2);
            int n = Integer.parseInt(token());
            if (n > most) throw fault(tooMuch);
            i++;
            return n;
        }
        World world() throws Fault {
            while (!token().isEmpty()) line();
            return world;
        }
        void line() throws Fault {
            String word = token();
            if (!List.of("corners", "person", "miser", "clock", "asks", "says").contains(word)) throw fault(1);
            if (word.equals("corners") && !world.people.isEmpty()) throw fault(4);
            boolean isPerson = word.equals("person") || word.equals("miser");
            if (isPerson && world.people.size() == 8) throw fault(2);
            if (!isPerson && !told.add(word)) throw fault(5);
            i++;
            if (word.equals("corners")) {
                if (token().equals("0") || token().equals("1") || token().matches("0{1,3}[01]")) throw fault(2);
                world.corners = number(6, 2, false);
            } else if (word.equals("clock")) {
                world.clock = number(59, 2, false);
            } else if (isPerson) {
                Person p = new Person(world.people.size());
                p.miser = word.equals("miser");
                p.left = number(999, 2, false);
                p.watch = number(59, 2, false);
                p.mean = number(9, 2, false);
                do { p.walk.add(number(world.corners - 1, 3, p.walk.size() == 6)); } while (token().matches("[0-9]+"));
                world.people.add(p);
            } else if (word.equals("asks")) {
                world.asks = expr(false);
            } else {
                world.says = expr(true);
            }
            sign(";");
        }
        private static final Map<String, Integer> RANK = new HashMap<>();
        static {
            RANK.put("or", 1); RANK.put("and", 2); RANK.put("not", 3); RANK.put("<", 4); RANK.put("=", 4);
            RANK.put("+", 5); RANK.put("-", 5); RANK.put("*", 6); RANK.put("/", 6);
        }
        final Deque<String> signs = new ArrayDeque<>();
        final Deque<Expr> parts = new ArrayDeque<>();

        Expr expr(boolean says) throws Fault {
            signs.clear(); parts.clear();
            boolean wantsPart = true, mayNot = true, isFirst = true;
            int nots = 0;
            for (;; i++) {
                String t = token();
                long open = signs.stream().filter(s -> s.equals("(")).count();
                boolean isNumber = t.matches("[0-9]+"), isWord = t.matches("[a-z]+");
                if (wantsPart) {
                    if (!isNumber && !isWord && !t.equals("(")) throw fault(1);
                    if (isFirst && open == 6) throw fault(2);
                    isFirst = false;
                    if (t.equals("not") && mayNot) {
                        if (++nots == 7) throw fault(2);
                        signs.push(t);
                        continue;
                    }
                    nots = 0;
                    if (t.equals("(")) { signs.push(t); mayNot = true; isFirst = true; continue; }
                    if (isNumber && t.length() > 4) throw fault(2);
                    parts.push(isNumber ? constant(Integer.parseInt(t)) : value(t, says));
                    wantsPart = false;
                } else if (t.equals(")")) {
                    if (open == 0) throw fault(1);
                    while (!signs.peek().equals("(")) join();
                    signs.pop();
                } else if (RANK.containsKey(t) && !t.equals("not")) {
                    int rank = RANK.get(t);
                    while (!signs.isEmpty() && !signs.peek().equals("(") && RANK.get(signs.peek()) > rank) join();
                    if (rank == 4 && !signs.isEmpty() && !signs.peek().equals("(") && RANK.get(signs.peek()) == 4) throw fault(1);
                    while (!signs.isEmpty() && !signs.peek().equals("(") && RANK.get(signs.peek()) == rank) join();
                    signs.push(t);
                    wantsPart = true;
                    mayNot = rank < 3;
                } else {
                    if (open > 0 || !t.equals(";")) throw fault(1);
                    while (!signs.isEmpty()) join();
                    return parts.pop();
                }
            }
        }
        static Expr constant(int n) { return s -> n; }
        Expr value(String t, boolean says) throws Fault {
            switch (t) {
                case "left": return s -> s.one.left;
                case "shown": return s -> s.world.shows(s.one);
                case "mean": return s -> s.one.mean;
                case "company": return s -> (int) s.world.others(s.one).stream().filter(q -> q.left > 0).count();
                case "step": return s -> s.world.step;
                case "theirs": if (says) return s -> s.asking.left; throw fault(3);
                case "given": if (says) return s -> s.one.given; throw fault(3);
                default: throw fault(3);
            }
        }
        void join() {
            String sign = signs.pop();
            Expr b = parts.pop();
            if (sign.equals("not")) { parts.push(s -> b.applyAsInt(s) == 0 ? 1 : 0); return; }
            Expr a = parts.pop();
            parts.push(s -> two(sign, a.applyAsInt(s), b.applyAsInt(s)));
        }
        static int two(String sign, int a, int b) {
            switch (sign) {
                case "or": return a != 0 | b != 0 ? 1 : 0;
                case "and": return a != 0 & b != 0 ? 1 : 0;
                case "<": return a < b ? 1 : 0;
                case "=": return a == b ? 1 : 0;
                case "+": return (int) ((long) a + b);
                case "-": return (int) ((long) a - b);
                case "*": return (int) ((long) a * b);
                default: return b == 0 ? 0 : (int) ((long) a / b);
            }
        }
    }

    // ---- the face

    public int feed(int a, int b, int c, int d, int e) {
        if (tape.size() + 20 > 700) return NONE;
        for (int n : new int[] {a, b, c, d, e}) for (int k = 3; k >= 0; k--) tape.add(n >>> 8 * k & 255);
        return tape.size();
    }
    public int quay(int n) {
        if (n < 0 || n > tape.size()) throw new IllegalArgumentException();
        StringBuilder text = new StringBuilder();
        for (int i = 0; i < n; i++) text.append((char) (int) tape.get(i));
        tape.clear();
        try {
            now = new Reading(text.toString()).world();
        } catch (Fault f) {
            fault = f.place;
            status[0]++;
            return f.code;
        }
        fault = NONE;
        acts = new ArrayList<>(); seen = new ArrayList<>(); image = null;
        return 0;
    }
    public int fault() { return fault; }
    private Person one(int person) {
        if (person < 0 || person >= now.people.size()) throw new NoSuchElementException();
        return now.people.get(person);
    }
    private static void what(int what, int most) { if (what < 0 || what > most) throw new NoSuchElementException(); }
    private static void from(int least, int n, int most) { if (n < least || n > most) throw new IllegalArgumentException(); }

    public int count(int what) {
        what(what, 14);
        int[] all = {now.corners, now.people.size(), now.step, now.clock, now.stopped ? 1 : 0, now.alive(),
            now.people.stream().filter(p -> p.stays).mapToInt(p -> 1 << p.number).sum(), now.total(),
            (int) now.people.stream().filter(p -> !now.others(p).isEmpty()).map(p -> now.corner(p)).distinct().count(),
            acts.size(), seen.size(), tape.size(), status[0], status[1], status[2]};
        return all[what];
    }
    public int person(int person, int what) {
        Person p = one(person);
        what(what, 8);
        int[] all = {p.left, p.watch, now.shows(p), p.mean, now.corner(p), p.given, p.miser ? 1 : 0, p.stays ? 1 : 0,
            now.others(p).stream().mapToInt(q -> 1 << q.number).sum()};
        return all[what];
    }
    private int refused(int which) { status[which]++; return NONE; }
    private void act() { acts.add(now.copy()); if (acts.size() > 40) acts.remove(0); }
    public int steps(int many) {
        if (many < 1 || many > 20 || now.step + many > 999) return refused(1);
        act();
        now.steps(many);
        return now.step;
    }
    public int set(int person, int watch) {
        Person p = one(person);
        if (watch < 0 || watch > 59 || watch == p.watch) return refused(1);
        act();
        int was = p.watch;
        p.watch = watch;
        return was;
    }
    public int give(int person, int minutes) {
        Person p = one(person);
        if (minutes < 1 || minutes > 100) return refused(1);
        act();
        p.left = Math.min(999, p.left + minutes);
        return p.left;
    }
    public boolean stop(boolean is) {
        if (now.stopped == is) { refused(1); return false; }
        act();
        now.stopped = is;
        return true;
    }
    public boolean stay(int person, boolean is) {
        Person p = one(person);
        if (p.stays == is) { refused(1); return false; }
        act();
        p.stays = is;
        return true;
    }
    public int undo() {
        if (acts.isEmpty()) return NONE;
        now = acts.remove(acts.size() - 1);
        return acts.size();
    }
    public int then(int person, int steps, int what) {
        one(person); what(what, 1); from(0, steps, 60);
        Person p = now.copy().steps(steps).people.get(person);
        return what == 0 ? p.left : p.given;
    }
    public int asked(int person, int k) {
        one(person); from(1, k, 60);
        for (int[] t : now.copy().steps(k).talks) if (t[0] == person) return t[1];
        return NONE;
    }
    public int spent(int person) {
        one(person);
        for (int k = 0; k <= 60; k++) if (now.copy().steps(k).people.get(person).left == 0) return k;
        return NONE;
    }
    /** Each STEP's talks, in their order. */
    private List<List<int[]>> talks(int steps) {
        List<List<int[]>> all = new ArrayList<>();
        World w = now.copy();
        for (int k = 0; k < steps; k++) all.add(new ArrayList<>(w.step(false).talks));
        return all;
    }
    public int later(int steps, int what) {
        what(what, 4); from(0, steps, 60);
        World w = now.copy().steps(steps);
        List<Person> alive = new ArrayList<>(w.people);
        alive.removeIf(p -> p.left == 0);
        if (what == 0) return w.alive();
        if (what == 1) { alive.sort(Comparator.comparingInt(p -> -p.left)); return alive.isEmpty() ? NONE : alive.get(0).number; }
        if (what == 2) { alive.sort(Comparator.comparingInt(p -> p.left)); return alive.isEmpty() ? NONE : alive.get(0).number; }
        if (what == 3) return w.total();
        return talks(steps).stream().flatMap(List::stream).mapToInt(t -> t[2]).sum();
    }
    public int busiest(int steps) {
        from(1, steps, 60);
        int[] times = new int[now.people.size()];
        talks(steps).stream().flatMap(List::stream).forEach(t -> times[t[1]]++);
        int best = now.people.isEmpty() ? NONE : 0;
        for (int p = 1; p < times.length; p++) if (times[p] > times[best]) best = p;
        return best;
    }
    public int robbed(int person, int other, int steps) {
        one(person); one(other); from(0, steps, 60);
        return talks(steps).stream().flatMap(List::stream).filter(t -> t[1] == person && t[0] == other).mapToInt(t -> t[2]).sum();
    }
    private boolean together(int p, int q, int k) {
        return now.corner(one(p), now.step + k - 1) == now.corner(one(q), now.step + k - 1);
    }
    public int meet(int person, int other) {
        one(person); one(other);
        for (int k = 1; k <= 60 && person != other; k++) if (together(person, other, k)) return k;
        return NONE;
    }
    public int often(int person, int other, int steps) {
        one(person); one(other); from(1, steps, 60);
        int n = 0;
        for (int k = 1; k <= steps; k++) n += together(person, other, k) ? 1 : 0;
        return n;
    }
    public int crowd(int steps) {
        from(1, steps, 60);
        int best = 1, most = 0;
        for (int k = 1; k <= steps; k++) {
            int[] at = new int[6];
            for (Person p : now.people) at[now.corner(p, now.step + k - 1)]++;
            int m = Arrays.stream(at).max().getAsInt();
            if (m > most) { most = m; best = k; }
        }
        return best;
    }
    public int where(int person, int k) {
        one(person); from(1, k, 60);
        return now.corner(one(person), now.step + k - 1);
    }
    public int watch(int steps) {
        from(1, steps, 60);
        for (int few = 0; ; few++) {
            for (int bits = 0; bits < 1 << now.corners; bits++) {
                if (Integer.bitCount(bits) != few) continue;
                boolean all = true;
                for (Person p : now.people) {
                    boolean is = false;
                    for (int k = 1; k <= steps; k++) is |= (bits >> now.corner(p, now.step + k - 1) & 1) == 1;
                    all &= is;
                }
                if (all) return bits;
            }
        }
    }
    public int toSet(int person, int steps, int what) {
        one(person); what(what, 1); from(1, steps, 60);
        int[] left = new int[60];
        for (int w = 0; w < 60; w++) {
            World world = now.copy();
            world.people.get(person).watch = w;
            left[w] = world.steps(steps).people.get(person).left;
        }
        int most = Arrays.stream(left).max().getAsInt();
        for (int w = 0; w < 60; w++) if (left[w] == most) return what == 0 ? w : most;
        throw new IllegalStateException();
    }
    public int toStay(int person, int steps) {
        one(person); from(1, steps, 60);
        int most = now.copy().steps(steps).people.get(person).left, best = NONE;
        for (Person p : now.people) {
            if (p.stays) continue;
            World world = now.copy();
            world.people.get(p.number).stays = true;
            int left = world.steps(steps).people.get(person).left;
            if (left > most) { most = left; best = p.number; }
        }
        return best;
    }
    public int toLast(int person, int steps) {
        one(person); from(1, steps, 60);
        for (int left = 0; left <= 999; left++) {
            World world = now.copy();
            world.people.get(person).left = left;
            if (world.steps(steps).people.get(person).left > 0) return left;
        }
        return NONE;
    }
    /** All ways to couple, each as a row with 8 for nobody. */
    private void rows(int[] row, int p, List<int[]> all) {
        if (p == row.length) { all.add(row.clone()); return; }
        if (row[p] >= 0) { rows(row, p + 1, all); return; }
        row[p] = 8;
        rows(row, p + 1, all);
        for (int q = p + 1; q < row.length; q++) {
            if (row[q] >= 0 || now.corner(one(p)) != now.corner(one(q))) continue;
            row[p] = q; row[q] = p;
            rows(row, p + 1, all);
            row[q] = -1;
        }
        row[p] = -1;
    }
    private static int couples(int[] row) { return (int) Arrays.stream(row).filter(q -> q < 8).count() / 2; }
    private int differ(int[] row) {
        int sum = 0;
        for (int p = 0; p < row.length; p++) if (row[p] < p) sum += Math.abs(one(p).left - one(row[p]).left);
        return sum;
    }
    private int[] bestRow() {
        int[] row = new int[now.people.size()];
        Arrays.fill(row, -1);
        List<int[]> all = new ArrayList<>();
        rows(row, 0, all);
        all.sort(Comparator.comparingInt((int[] r) -> -couples(r)).thenComparingInt(this::differ).thenComparing(Arrays::compare));
        return all.get(0);
    }
    public int pairs(int what) { what(what, 1); int[] row = bestRow(); return what == 0 ? couples(row) : differ(row); }
    public int pair(int person) { one(person); int q = bestRow()[person]; return q == 8 ? NONE : q; }
    public int gained(int person, int steps) {
        one(person); from(0, steps, 60);
        return now.copy().steps(steps).people.get(person).left - one(person).left;
    }
    public int shows(int person, int k) {
        one(person); from(1, k, 60);
        World w = now.copy().steps(k - 1);
        return w.shows(w.people.get(person));
    }
    public int alike() {
        int n = 0;
        for (Person p : now.people) for (Person q : now.people) n += p.number < q.number && now.shows(p) == now.shows(q) ? 1 : 0;
        return n;
    }
    public int silent(int steps) { from(1, steps, 60); return (int) talks(steps).stream().filter(List::isEmpty).count(); }
    public int see(int person, int steps, int left) {
        one(person);
        if (seen.size() == 8 || steps < 0 || steps > 20 || left < 0 || left > 999) return refused(2);
        seen.add(new int[] {person, steps, left});
        return seen.size();
    }
    private boolean fits(World world) {
        for (int[] s : seen) if (world.copy().steps(s[1]).people.get(s[0]).left != s[2]) return false;
        return true;
    }
    private List<Integer> candidates() {
        List<Integer> all = new ArrayList<>();
        for (Person p : now.people) for (int w = 0; w < 60; w++) if (w != p.watch && fits(with(p.number, w))) all.add(100 * p.number + w);
        return all;
    }
    private World with(int person, int watch) { World w = now.copy(); w.people.get(person).watch = watch; return w; }
    public int fast(int what) {
        what(what, 2);
        if (what == 2) return fits(now) ? 1 : 0;
        List<Integer> all = candidates();
        return what == 0 ? all.size() : all.isEmpty() ? NONE : all.get(0);
    }
    public int look(int what) {
        what(what, 1);
        List<Set<Integer>> unlike = new ArrayList<>();
        for (int p = 0; p < now.people.size(); p++) unlike.add(new TreeSet<>());
        List<Integer> all = candidates();
        for (int c : all) for (Person p : with(c / 100, c % 100).steps(5).people) unlike.get(p.number).add(p.left);
        int best = NONE, most = 0;
        for (int p = 0; p < unlike.size(); p++) if (unlike.get(p).size() > most) { most = unlike.get(p).size(); best = p; }
        return what == 0 ? best : most;
    }
    public void forget() { seen = new ArrayList<>(); }
    private int likely(World w, int person, int steps, int tenths) {
        if (steps == 0) return w.people.get(person).left == 0 ? 1 : 0;
        return tenths * likely(w.copy().step(true), person, steps - 1, tenths)
            + (10 - tenths) * likely(w.copy().step(false), person, steps - 1, tenths);
    }
    public int fog(int person, int steps, int tenths) {
        one(person); from(1, steps, 5); from(0, tenths, 10);
        return likely(now, person, steps, tenths);
    }
    private int[] gain(int person, int a, int other, int b) {
        World w = now.copy();
        if (a == 1) { w.people.get(person).mean = 9; w.people.get(person).stays = true; }
        if (b == 1) { w.people.get(other).mean = 9; w.people.get(other).stays = true; }
        w.steps(6);
        return new int[] {w.people.get(person).left / 4 - 2 * a, w.people.get(other).left / 4 - 2 * b};
    }
    public int game(int person, int other, int what) {
        one(person); one(other); what(what, 1);
        if (person == other) throw new IllegalArgumentException();
        List<Integer> rest = new ArrayList<>();
        for (int a = 0; a < 2; a++) for (int b = 0; b < 2; b++) {
            int[] here = gain(person, a, other, b);
            if (gain(person, 1 - a, other, b)[0] > here[0] || gain(person, a, other, 1 - b)[1] > here[1]) continue;
            rest.add(10 * a + b);
        }
        return what == 0 ? rest.size() : rest.isEmpty() ? NONE : rest.get(0);
    }
    private static int draw(int[] seed, int n) { seed[0] = seed[0] * 1103515245 + 12345; return (seed[0] & 0x7fffffff) / 65536 % n; }
    public int years(int seed, int n, int what) {
        what(what, 2); from(0, n, 60);
        int[] s = {seed};
        World w = now.copy();
        int people = w.people.size(), passed = 0;
        for (int k = 0; k < n; k++) {
            int d = draw(s, 6);
            if (d == 3) w.clock = draw(s, 60);
            if (d < 3 && people > 0) {
                Person p = w.people.get(draw(s, people));
                if (d == 0) p.watch = draw(s, 60);
                if (d == 1) p.stays = !p.stays;
                if (d == 2) p.left = Math.min(999, p.left + 20);
            }
            passed += w.step(false).minutes();
        }
        return what == 0 ? passed : what == 1 ? w.total() : w.alive();
    }
    public void image() {
        List<World> kept = new ArrayList<>();
        for (World w : acts) kept.add(w.copy());
        image = new Object[] {now.copy(), kept, new ArrayList<>(seen), status.clone()};
    }
    @SuppressWarnings("unchecked")
    public boolean restore() {
        if (image == null) return false;
        now = ((World) image[0]).copy();
        acts = new ArrayList<>();
        for (World w : (List<World>) image[1]) acts.add(w.copy());
        seen = new ArrayList<>((List<int[]>) image[2]);
        status = ((int[]) image[3]).clone();
        return true;
    }
}
