import java.util.Arrays;
import java.util.NoSuchElementException;

/** People of a port who ask one another the time, and are given as many minutes as they are told. */
public final class GivenMinutes {
    public static final int NONE = -1;

    private static final int MOST_BYTES = 700;
    private static final int MOST_NUMBER = 9999;
    private static final int FED_BYTES = 20;
    private static final int FEWEST_CORNERS = 2;
    private static final int MOST_CORNERS = 6;
    private static final int USUAL_CORNERS = 3;
    private static final int MOST_PEOPLE = 8;
    private static final int MOST_WALK = 6;
    private static final int MOST_LEFT = 999;
    private static final int MOST_MEAN = 9;
    private static final int MOST_GIVEN = 9999;
    private static final int MOST_STEP = 999;
    private static final int MOST_STEPS_AT_ONCE = 20;
    private static final int MOST_GIFT = 100;
    private static final int MOST_ACTS = 40;
    private static final int MOST_SEEN = 8;
    private static final int MOST_SEEN_STEPS = 20;
    private static final int AHEAD = 60;
    private static final int HOUR = 60;
    private static final int FIVE_MINUTES = 5;
    private static final int USUAL_WATCH = 30;
    private static final int ASKS_WITHOUT_RULE = 60;
    private static final int LOOK_STEPS = 5;
    private static final int FOG_STEPS = 5;
    private static final int TENTHS = 10;
    private static final int GAME_STEPS = 6;
    private static final int GAME_CHOICES = 4;
    private static final int YEARS_GIFT = 20;
    private static final int FAULTY_TEXTS = 0;
    private static final int REFUSED_ACTS = 1;
    private static final int REFUSED_SEEN = 2;
    private static final int STATUSES = 3;
    private static final int FIRST_STATUS = 12;
    private static final int COUNTS = 15;

    private final byte[] tape = new byte[MOST_BYTES];
    private int tapeLength = 0;
    private int faultPlace = NONE;
    private Quay quay = new Quay();
    private final Reader reader = new Reader();
    private final Port port = new Port();
    private final State now = new State();
    private final State trial = new State();
    private final Acts acts = new Acts();
    private final Seen seen = new Seen();
    private final int[] status = new int[STATUSES];
    private final Image image = new Image();
    private final Couples couples = new Couples();
    private final Unlike unlike = new Unlike();
    private final int[] gains = new int[2 * GAME_CHOICES];
    private int seed = 0;

    public GivenMinutes() {
        // Nothing is left to do: a Quay begins with 3 CORNERS and nobody, a State at STEP 0.
    }

    // ==== The tape and the text

    public int feed(int a, int b, int c, int d, int e) {
        if (tapeLength + FED_BYTES > MOST_BYTES) {
            return NONE;
        }
        putOnTape(a);
        putOnTape(b);
        putOnTape(c);
        putOnTape(d);
        putOnTape(e);
        return tapeLength;
    }

    private void putOnTape(int number) {
        for (int shift = 24; shift >= 0; shift -= 8) {
            if (tapeLength >= 0 && tapeLength < tape.length) {
                tape[tapeLength] = (byte) (number >> shift);
                tapeLength++;
            }
        }
    }

    public int quay(int n) throws IllegalArgumentException {
        if (n < 0 || n > tapeLength) {
            throw new IllegalArgumentException("the tape has not so many");
        }
        int found = reader.readAll(tape, n);
        tapeLength = 0;
        if (found != 0) {
            faultPlace = reader.place;
            refuse(FAULTY_TEXTS);
            return found;
        }
        faultPlace = NONE;
        Quay old = quay;
        quay = reader.told;
        reader.told = old;
        now.beginOn(quay);
        acts.clear();
        seen.clear();
        image.isKept = false;
        return 0;
    }

    public int fault() {
        return faultPlace;
    }

    // ==== What is so now

    public int count(int what) throws NoSuchElementException {
        needWhat(what, COUNTS);
        if (what >= FIRST_STATUS) {
            return statusOf(what - FIRST_STATUS);
        }
        switch (what) {
            case 0: return quay.corners;
            case 1: return quay.people;
            case 2: return now.step;
            case 3: return now.clock;
            case 4: return now.stopped ? 1 : 0;
            case 5: return now.aliveBits();
            case 6: return now.staying;
            case 7: return now.total();
            case 8: return companies();
            case 9: return acts.count;
            case 10: return seen.count;
            default: return tapeLength;
        }
    }

    private int statusOf(int which) {
        return which >= 0 && which < status.length ? status[which] : 0;
    }

    private int companies() {
        int many = 0;
        for (int corner = 0; corner < quay.corners; corner++) {
            if (quay.howManyAt(corner, now.step) >= 2) {
                many++;
            }
        }
        return many;
    }

    public int person(int person, int what) throws NoSuchElementException {
        needPerson(person);
        needWhat(what, 9);
        switch (what) {
            case 0: return now.leftOf(person);
            case 1: return now.watchOf(person);
            case 2: return now.shownBy(person);
            case 3: return now.meanOf(person);
            case 4: return quay.cornerOf(person, now.step);
            case 5: return now.givenBy(person);
            case 6: return quay.isMiser(person) ? 1 : 0;
            case 7: return now.staysIn(person) ? 1 : 0;
            default: return quay.bitsAt(quay.cornerOf(person, now.step), now.step) & ~(1 << person);
        }
    }

    // ==== ACTS

    public int steps(int many) {
        if (many < 1 || many > MOST_STEPS_AT_ONCE || now.step + many > MOST_STEP) {
            return refuse(REFUSED_ACTS);
        }
        acts.keep(now);
        port.goOn(quay, now, many);
        return now.step;
    }

    public int set(int person, int watch) throws NoSuchElementException {
        needPerson(person);
        int before = now.watchOf(person);
        if (watch < 0 || watch >= HOUR || watch == before) {
            return refuse(REFUSED_ACTS);
        }
        acts.keep(now);
        now.setWatch(person, watch);
        return before;
    }

    public int give(int person, int minutes) throws NoSuchElementException {
        needPerson(person);
        if (minutes < 1 || minutes > MOST_GIFT) {
            return refuse(REFUSED_ACTS);
        }
        acts.keep(now);
        now.receive(person, minutes);
        return now.leftOf(person);
    }

    public boolean stop(boolean is) {
        if (now.stopped == is) {
            refuse(REFUSED_ACTS);
            return false;
        }
        acts.keep(now);
        now.stopped = is;
        return true;
    }

    public boolean stay(int person, boolean is) throws NoSuchElementException {
        needPerson(person);
        if (now.staysIn(person) == is) {
            refuse(REFUSED_ACTS);
            return false;
        }
        acts.keep(now);
        now.keepIn(person, is);
        return true;
    }

    public int undo() {
        return acts.takeBack(now) ? acts.count : NONE;
    }

    // ==== If only STEPS go by

    public int then(int person, int steps, int what) throws NoSuchElementException, IllegalArgumentException {
        needPerson(person);
        needWhat(what, 2);
        needWithin(steps, 0, AHEAD);
        rewind();
        port.goOn(quay, trial, steps);
        return what == 0 ? trial.leftOf(person) : trial.givenBy(person);
    }

    public int asked(int person, int k) throws NoSuchElementException, IllegalArgumentException {
        needPerson(person);
        needWithin(k, 1, AHEAD);
        rewind();
        port.goOn(quay, trial, k);
        return port.whomAsked(person);
    }

    public int spent(int person) throws NoSuchElementException {
        needPerson(person);
        rewind();
        for (int k = 0; k < AHEAD; k++) {
            if (trial.isSpent(person)) {
                return k;
            }
            port.goOn(quay, trial, 1);
        }
        return trial.isSpent(person) ? AHEAD : NONE;
    }

    public int later(int steps, int what) throws NoSuchElementException, IllegalArgumentException {
        needWhat(what, 5);
        needWithin(steps, 0, AHEAD);
        rewind();
        port.goOn(quay, trial, steps);
        switch (what) {
            case 0: return trial.aliveBits();
            case 1: return trial.richestOf(trial.aliveBits());
            case 2: return trial.poorestOf(trial.aliveBits());
            case 3: return trial.total();
            default: return port.passed;
        }
    }

    public int busiest(int steps) throws IllegalArgumentException {
        needWithin(steps, 1, AHEAD);
        rewind();
        port.goOn(quay, trial, steps);
        int best = NONE;
        int most = -1;
        for (int p = 0; p < quay.people; p++) {
            if (port.timesAsked(p) > most) {
                most = port.timesAsked(p);
                best = p;
            }
        }
        return best;
    }

    public int robbed(int person, int other, int steps) throws NoSuchElementException, IllegalArgumentException {
        needPerson(person);
        needPerson(other);
        needWithin(steps, 0, AHEAD);
        rewind();
        port.goOn(quay, trial, steps);
        return port.handedOver(person, other);
    }

    public int gained(int person, int steps) throws NoSuchElementException, IllegalArgumentException {
        needPerson(person);
        needWithin(steps, 0, AHEAD);
        rewind();
        port.goOn(quay, trial, steps);
        return trial.leftOf(person) - now.leftOf(person);
    }

    public int shows(int person, int k) throws NoSuchElementException, IllegalArgumentException {
        needPerson(person);
        needWithin(k, 1, AHEAD);
        int passed = now.stopped ? 0 : FIVE_MINUTES * (k - 1);
        return Math.floorMod(now.shownBy(person) + passed, HOUR);
    }

    public int alike() {
        int many = 0;
        for (int p = 0; p < quay.people; p++) {
            for (int q = p + 1; q < quay.people; q++) {
                if (now.shownBy(p) == now.shownBy(q)) {
                    many++;
                }
            }
        }
        return many;
    }

    public int silent(int steps) throws IllegalArgumentException {
        needWithin(steps, 1, AHEAD);
        rewind();
        port.goOn(quay, trial, steps);
        return port.silentSteps;
    }

    // ==== Who is where

    public int meet(int person, int other) throws NoSuchElementException {
        needPerson(person);
        needPerson(other);
        if (person == other) {
            return NONE;
        }
        for (int k = 1; k <= AHEAD; k++) {
            if (areTogether(person, other, k)) {
                return k;
            }
        }
        return NONE;
    }

    public int often(int person, int other, int steps) throws NoSuchElementException, IllegalArgumentException {
        needPerson(person);
        needPerson(other);
        needWithin(steps, 1, AHEAD);
        int many = 0;
        for (int k = 1; k <= steps; k++) {
            if (areTogether(person, other, k)) {
                many++;
            }
        }
        return many;
    }

    private boolean areTogether(int person, int other, int k) {
        return cornerIn(person, k) == cornerIn(other, k);
    }

    /** The CORNER of one in the k-th STEP, 1 on. */
    private int cornerIn(int person, int k) {
        return quay.cornerOf(person, now.step + k - 1);
    }

    public int crowd(int steps) throws IllegalArgumentException {
        needWithin(steps, 1, AHEAD);
        int best = 1;
        int most = 0;
        for (int k = 1; k <= steps; k++) {
            for (int corner = 0; corner < quay.corners; corner++) {
                int many = quay.howManyAt(corner, now.step + k - 1);
                if (many > most) {
                    most = many;
                    best = k;
                }
            }
        }
        return best;
    }

    public int where(int person, int k) throws NoSuchElementException, IllegalArgumentException {
        needPerson(person);
        needWithin(k, 1, AHEAD);
        return cornerIn(person, k);
    }

    public int watch(int steps) throws IllegalArgumentException {
        needWithin(steps, 1, AHEAD);
        int best = (1 << quay.corners) - 1;
        for (int corners = best - 1; corners >= 0; corners--) {
            boolean isAsFew = Integer.bitCount(corners) <= Integer.bitCount(best);
            if (isAsFew && seesEveryone(corners, steps)) {
                best = corners;
            }
        }
        return best;
    }

    private boolean seesEveryone(int corners, int steps) {
        for (int p = 0; p < quay.people; p++) {
            if ((corners & quay.visitedBy(p, now.step, steps)) == 0) {
                return false;
            }
        }
        return true;
    }

    // ==== What would be best

    public int toSet(int person, int steps, int what) throws NoSuchElementException, IllegalArgumentException {
        needPerson(person);
        needWhat(what, 2);
        needWithin(steps, 1, AHEAD);
        int best = 0;
        int most = -1;
        for (int watch = 0; watch < HOUR; watch++) {
            rewind();
            trial.setWatch(person, watch);
            port.goOn(quay, trial, steps);
            if (trial.leftOf(person) > most) {
                most = trial.leftOf(person);
                best = watch;
            }
        }
        return what == 0 ? best : most;
    }

    public int toStay(int person, int steps) throws NoSuchElementException, IllegalArgumentException {
        needPerson(person);
        needWithin(steps, 1, AHEAD);
        rewind();
        port.goOn(quay, trial, steps);
        int best = NONE;
        int most = trial.leftOf(person);
        for (int p = 0; p < quay.people; p++) {
            if (now.staysIn(p)) {
                continue;
            }
            rewind();
            trial.keepIn(p, true);
            port.goOn(quay, trial, steps);
            if (trial.leftOf(person) > most) {
                most = trial.leftOf(person);
                best = p;
            }
        }
        return best;
    }

    public int toLast(int person, int steps) throws NoSuchElementException, IllegalArgumentException {
        needPerson(person);
        needWithin(steps, 1, AHEAD);
        // More LEFT is no surer to last: who has most is asked. So each number is tried.
        for (int left = 0; left <= MOST_LEFT; left++) {
            if (lastsWith(person, left, steps)) {
                return left;
            }
        }
        return NONE;
    }

    private boolean lastsWith(int person, int left, int steps) {
        rewind();
        trial.setLeft(person, left);
        for (int k = 0; k < steps; k++) {
            if (trial.isSpent(person)) {
                return false;
            }
            port.goOn(quay, trial, 1);
        }
        return !trial.isSpent(person);
    }

    public int pairs(int what) throws NoSuchElementException {
        needWhat(what, 2);
        couples.join(quay, now);
        return what == 0 ? couples.many : couples.difference;
    }

    public int pair(int person) throws NoSuchElementException {
        needPerson(person);
        couples.join(quay, now);
        return couples.otherOf(person);
    }

    // ==== What is SEEN

    public int see(int person, int steps, int left) throws NoSuchElementException {
        needPerson(person);
        boolean isTold = steps >= 0 && steps <= MOST_SEEN_STEPS && left >= 0 && left <= MOST_LEFT;
        if (!isTold || !seen.add(person, steps, left)) {
            return refuse(REFUSED_SEEN);
        }
        return seen.count;
    }

    public int fast(int what) throws NoSuchElementException {
        needWhat(what, 3);
        if (what == 2) {
            return isAllSeenBy(NONE, NONE) ? 1 : 0;
        }
        int many = 0;
        for (int p = 0; p < quay.people; p++) {
            for (int watch = 0; watch < HOUR; watch++) {
                if (isAllSeenBy(p, watch)) {
                    if (what == 1) {
                        return 100 * p + watch;
                    }
                    many++;
                }
            }
        }
        return what == 0 ? many : NONE;
    }

    /** Whether all SEEN would be so, if one had this WATCH; NONE tells of all as it is. */
    private boolean isAllSeenBy(int person, int watch) {
        if (person != NONE && now.watchOf(person) == watch) {
            return false;
        }
        rewind();
        trial.setWatch(person, watch);
        int last = Math.min(seen.lastStep(), MOST_SEEN_STEPS);
        for (int k = 0; k < last; k++) {
            if (!seen.isSoBehind(k, trial)) {
                return false;
            }
            port.goOn(quay, trial, 1);
        }
        return seen.isSoBehind(last, trial);
    }

    public int look(int what) throws NoSuchElementException {
        needWhat(what, 2);
        unlike.clear();
        for (int p = 0; p < quay.people; p++) {
            for (int watch = 0; watch < HOUR; watch++) {
                if (isAllSeenBy(p, watch)) {
                    rewind();
                    trial.setWatch(p, watch);
                    port.goOn(quay, trial, LOOK_STEPS);
                    unlike.addAll(trial, quay.people);
                }
            }
        }
        int who = unlike.most();
        return what == 0 ? who : unlike.howMany(who);
    }

    public void forget() {
        seen.clear();
    }

    // ==== Chance, a game, and years

    public int fog(int person, int steps, int tenths) throws NoSuchElementException, IllegalArgumentException {
        needPerson(person);
        needWithin(steps, 1, FOG_STEPS);
        needWithin(tenths, 0, TENTHS);
        int likely = 0;
        for (int foggy = 0; foggy < 1 << steps; foggy++) {
            int weight = 1;
            rewind();
            for (int k = 0; k < steps; k++) {
                if ((foggy >> k & 1) == 1) {
                    weight *= tenths;
                    trial.endStep();
                } else {
                    weight *= TENTHS - tenths;
                    port.goOn(quay, trial, 1);
                }
            }
            if (trial.isSpent(person)) {
                likely += weight;
            }
        }
        return likely;
    }

    public int game(int person, int other, int what) throws NoSuchElementException, IllegalArgumentException {
        needPerson(person);
        needPerson(other);
        needWhat(what, 2);
        if (person == other) {
            throw new IllegalArgumentException("both are one");
        }
        for (int choices = 0; choices < GAME_CHOICES; choices++) {
            play(person, other, choices);
        }
        int many = 0;
        int first = NONE;
        for (int choices = 0; choices < GAME_CHOICES; choices++) {
            if (isAtRest(choices)) {
                first = many == 0 ? 10 * (choices >> 1) + (choices & 1) : first;
                many++;
            }
        }
        return what == 0 ? many : first;
    }

    /** Notes what both gain. Of choices the higher bit is the first one's: 1 hides the WATCH. */
    private void play(int person, int other, int choices) {
        int mine = choices >> 1 & 1;
        int theirs = choices & 1;
        rewind();
        if (mine == 1) {
            trial.hideWatch(person);
        }
        if (theirs == 1) {
            trial.hideWatch(other);
        }
        port.goOn(quay, trial, GAME_STEPS);
        if (choices >= 0 && choices < GAME_CHOICES) {
            gains[2 * choices] = trial.leftOf(person) / 4 - 2 * mine;
            gains[2 * choices + 1] = trial.leftOf(other) / 4 - 2 * theirs;
        }
    }

    private boolean isAtRest(int choices) {
        return gainBy(choices, 0) >= gainBy(choices ^ 2, 0) && gainBy(choices, 1) >= gainBy(choices ^ 1, 1);
    }

    private int gainBy(int choices, int which) {
        int at = 2 * choices + which;
        return at >= 0 && at < gains.length ? gains[at] : 0;
    }

    public int years(int seed, int n, int what) throws NoSuchElementException, IllegalArgumentException {
        needWhat(what, 3);
        needWithin(n, 0, AHEAD);
        this.seed = seed;
        rewind();
        for (int k = 0; k < n; k++) {
            drawOnce();
            port.goOn(quay, trial, 1);
        }
        switch (what) {
            case 0: return port.passed;
            case 1: return trial.total();
            default: return trial.aliveBits();
        }
    }

    /** What a DRAW changes ahead of a STEP. */
    private void drawOnce() {
        int drawn = draw(6);
        if (drawn == 3) {
            trial.clock = draw(HOUR);
        }
        if (drawn > 2 || quay.people <= 0) {
            return;
        }
        int who = draw(quay.people);
        if (drawn == 0) {
            trial.setWatch(who, draw(HOUR));
        } else if (drawn == 1) {
            trial.keepIn(who, !trial.staysIn(who));
        } else {
            trial.receive(who, YEARS_GIFT);
        }
    }

    private int draw(int n) {
        seed = seed * 1103515245 + 12345;
        return n > 0 ? (seed >>> 16 & 0x7fff) % n : 0;
    }

    // ==== The image

    public void image() {
        image.state.become(now);
        image.acts.become(acts);
        image.seen.become(seen);
        System.arraycopy(status, 0, image.status, 0, STATUSES);
        image.isKept = true;
    }

    public boolean restore() {
        if (!image.isKept) {
            return false;
        }
        now.become(image.state);
        acts.become(image.acts);
        seen.become(image.seen);
        System.arraycopy(image.status, 0, status, 0, STATUSES);
        return true;
    }

    // ==== What many calls need

    private void needPerson(int person) {
        if (person < 0 || person >= quay.people) {
            throw new NoSuchElementException("no such person");
        }
    }

    private void needWhat(int what, int kinds) {
        if (what < 0 || what >= kinds) {
            throw new NoSuchElementException("no such what");
        }
    }

    private void needWithin(int number, int least, int most) {
        if (number < least || number > most) {
            throw new IllegalArgumentException("not within its bounds");
        }
    }

    private int refuse(int which) {
        if (which >= 0 && which < status.length) {
            status[which]++;
        }
        return NONE;
    }

    private void rewind() {
        trial.become(now);
        port.clear();
    }

    /** A rule: its TOKENS, each sign behind the parts that it joins, a NUMBER n as ~n. */
    private static final class Rule {
        // Six EXPRS within one another leave at most five parts waiting each.
        static final int STACK = 40;

        private final int[] codes = new int[MOST_BYTES];
        private int length = 0;

        void clear() {
            length = 0;
        }

        boolean isTold() {
            return length > 0;
        }

        void add(int code) {
            if (length >= 0 && length < codes.length) {
                codes[length] = code;
                length++;
            }
        }

        /** What a sign or a word between two parts makes of them. */
        static int join(int sign, int a, int b) {
            switch (sign) {
                case Tokens.OR: return a != 0 || b != 0 ? 1 : 0;
                case Tokens.AND: return a != 0 && b != 0 ? 1 : 0;
                case '<': return a < b ? 1 : 0;
                case '=': return a == b ? 1 : 0;
                case '+': return a + b;
                case '-': return a - b;
                case '*': return a * b;
                default: return b == 0 ? 0 : a / b;
            }
        }
    }

    /** What a text tells. */
    private static final class Quay {
        private int corners = USUAL_CORNERS;
        private int people = 0;
        private int clock = 0;
        private int misers = 0;
        private final int[] left = new int[MOST_PEOPLE];
        private final int[] watch = new int[MOST_PEOPLE];
        private final int[] mean = new int[MOST_PEOPLE];
        private final int[] walkLength = new int[MOST_PEOPLE];
        private final int[] walk = new int[MOST_PEOPLE * MOST_WALK];
        private final Rule asks = new Rule();
        private final Rule says = new Rule();

        void clear() {
            corners = USUAL_CORNERS;
            people = 0;
            clock = 0;
            misers = 0;
            // Who is not told of has 0 LEFT, so that nobody counts as one who isn't SPENT.
            Arrays.fill(left, 0);
            Arrays.fill(watch, 0);
            Arrays.fill(mean, 0);
            Arrays.fill(walkLength, 0);
            asks.clear();
            says.clear();
        }

        boolean hasRoom() {
            return people >= 0 && people < MOST_PEOPLE;
        }

        void addCorner(int corner) {
            if (!hasRoom()) {
                return;
            }
            int at = walkLength[people];
            if (at >= 0 && at < MOST_WALK) {
                walk[people * MOST_WALK + at] = corner;
                walkLength[people] = at + 1;
            }
        }

        /** Whose WALK was told already is one of PEOPLE now. */
        void addPerson(int hasLeft, int hasWatch, int hasMean, boolean isMiser) {
            if (!hasRoom()) {
                return;
            }
            left[people] = hasLeft;
            watch[people] = hasWatch;
            mean[people] = hasMean;
            misers |= isMiser ? 1 << people : 0;
            people++;
        }

        boolean isMiser(int p) {
            return (misers >> p & 1) == 1;
        }

        int cornerOf(int p, int t) {
            int many = p >= 0 && p < walkLength.length ? walkLength[p] : 0;
            if (many <= 0 || many > MOST_WALK) {
                return 0;
            }
            return walk[p * MOST_WALK + Math.floorMod(t, many)];
        }

        /** Who is at a CORNER in STEP t, whoever they are. */
        int bitsAt(int corner, int t) {
            int bits = 0;
            for (int p = 0; p < people; p++) {
                if (cornerOf(p, t) == corner) {
                    bits |= 1 << p;
                }
            }
            return bits;
        }

        int howManyAt(int corner, int t) {
            return Integer.bitCount(bitsAt(corner, t));
        }

        int visitedBy(int p, int t, int steps) {
            int bits = 0;
            // A WALK begins anew behind its last CORNER.
            for (int k = 0; k < steps && k < MOST_WALK; k++) {
                bits |= 1 << cornerOf(p, t + k);
            }
            return bits;
        }
    }

    /** The TOKENS of a text: of each its kind and its place. A sign's kind is the sign. */
    private static final class Tokens {
        static final int END = 0;
        static final int NUMBER = 1;
        static final int LONG_NUMBER = 2;
        static final int NO_TOKEN = 3;
        static final int CORNERS = 100;
        static final int PERSON = 101;
        static final int MISER = 102;
        static final int CLOCK = 103;
        static final int ASKS = 104;
        static final int SAYS = 105;
        static final int OR = 106;
        static final int AND = 107;
        static final int NOT = 108;
        static final int LEFT = 109;
        static final int SHOWN = 110;
        static final int MEAN = 111;
        static final int COMPANY = 112;
        static final int STEP = 113;
        static final int THEIRS = 114;
        static final int GIVEN = 115;
        static final int OTHER_WORD = 116;
        // In the order of the kinds above.
        private static final String WORDS =
            "corners person miser clock asks says or and not left shown mean company step theirs given ";
        private static final String SIGNS = ";()+-*/<=";
        private static final int MOST_DIGITS = 4;

        private final int[] kinds = new int[MOST_BYTES + 1];
        private final int[] places = new int[MOST_BYTES + 1];
        private final int[] numbers = new int[MOST_BYTES + 1];
        private int count = 0;

        void scan(byte[] text, int length) {
            count = 0;
            int at = 0;
            for (int n = 0; n < MOST_BYTES && at < length; n++) {
                int c = byteAt(text, at);
                int end = at + 1;
                if (isDigit(c) || isLetter(c)) {
                    while (end < length && isLikeRow(c, byteAt(text, end))) {
                        end++;
                    }
                }
                if (c != 32 && c != 10) {
                    add(kindOf(text, at, end), at, numberIn(text, at, end));
                }
                at = end;
            }
            add(END, length, 0);
        }

        private void add(int kind, int place, int number) {
            if (count >= 0 && count < kinds.length) {
                kinds[count] = kind;
                places[count] = place;
                numbers[count] = number;
                count++;
            }
        }

        private static int byteAt(byte[] text, int i) {
            return i >= 0 && i < text.length ? text[i] & 255 : 0;
        }

        private static boolean isDigit(int c) {
            return c >= '0' && c <= '9';
        }

        private static boolean isLetter(int c) {
            return c >= 'a' && c <= 'z';
        }

        private static boolean isLikeRow(int first, int c) {
            return isDigit(first) ? isDigit(c) : isLetter(c);
        }

        private static int kindOf(byte[] text, int from, int to) {
            int c = byteAt(text, from);
            if (isDigit(c)) {
                return to - from > MOST_DIGITS ? LONG_NUMBER : NUMBER;
            }
            if (isLetter(c)) {
                return kindOfWord(text, from, to);
            }
            return SIGNS.indexOf((char) c) >= 0 ? c : NO_TOKEN;
        }

        private static int kindOfWord(byte[] text, int from, int to) {
            int kind = CORNERS;
            int at = from;
            boolean isSame = true;
            for (int i = 0; i < WORDS.length(); i++) {
                char c = WORDS.charAt(i);
                if (c != ' ') {
                    isSame = isSame && at < to && byteAt(text, at) == c;
                    at++;
                } else if (isSame && at == to) {
                    return kind;
                } else {
                    kind++;
                    at = from;
                    isSame = true;
                }
            }
            return OTHER_WORD;
        }

        private static int numberIn(byte[] text, int from, int to) {
            int number = 0;
            for (int i = from; i < to && i < from + MOST_DIGITS; i++) {
                int c = byteAt(text, i);
                number = isDigit(c) ? 10 * number + c - '0' : 0;
            }
            return number;
        }

        int kindAt(int i) {
            return i >= 0 && i < count && i < kinds.length ? kinds[i] : END;
        }

        int placeAt(int i) {
            return i >= 0 && i < count && i < places.length ? places[i] : NONE;
        }

        int numberAt(int i) {
            return i >= 0 && i < count && i < numbers.length ? numbers[i] : 0;
        }
    }

    /** Reads a text TOKEN by TOKEN, up to its first FAULT. */
    private static final class Reader {
        private static final int CANT_STAND = 1;
        private static final int TOO_MUCH = 2;
        private static final int ISNT_THERE = 3;
        private static final int CORNERS_TOO_LATE = 4;
        private static final int TOLD_AGAIN = 5;
        private static final int STOPPED = -1;
        private static final int MOST_WITHIN = 6;
        private static final int MOST_NOTS = 6;

        private final Tokens tokens = new Tokens();
        private Quay told = new Quay();
        private Rule rule = told.asks;
        private int at = 0;
        private int kind = Tokens.END;
        private int found = 0;
        private int place = NONE;
        private boolean isCornersTold = false;
        private boolean isClockTold = false;

        /** Tells anew of a QUAY by the first bytes: 0, or the FAULT. */
        int readAll(byte[] text, int length) {
            tokens.scan(text, length);
            told.clear();
            at = 0;
            kind = tokens.kindAt(0);
            found = 0;
            isCornersTold = false;
            isClockTold = false;
            for (int lines = 0; lines < MOST_BYTES && kind != Tokens.END && found == 0; lines++) {
                readLine();
                needSign(';');
            }
            // No TOKEN is read behind a FAULT: it is the one that is looked at.
            place = found != 0 ? tokens.placeAt(at) : NONE;
            return found;
        }

        private void fail(int code) {
            // What follows the first FAULT tells nothing: no kind fits any more.
            if (found == 0) {
                found = code;
                kind = STOPPED;
            }
        }

        private void goOn() {
            if (found == 0) {
                at++;
                kind = tokens.kindAt(at);
            }
        }

        private boolean isNumber() {
            return kind == Tokens.NUMBER || kind == Tokens.LONG_NUMBER;
        }

        private boolean isWord() {
            return kind >= Tokens.CORNERS;
        }

        private void needSign(int sign) {
            if (kind == sign) {
                goOn();
            } else {
                fail(CANT_STAND);
            }
        }

        private int needNumber(int least, int most) {
            int number = tokens.numberAt(at);
            if (!isNumber()) {
                fail(CANT_STAND);
                return least;
            }
            if (kind == Tokens.LONG_NUMBER || number < least || number > most) {
                fail(TOO_MUCH);
                return least;
            }
            goOn();
            return number;
        }

        // ---- LINES

        private void readLine() {
            switch (kind) {
                case Tokens.CORNERS: readCorners(); break;
                case Tokens.PERSON: readPerson(false); break;
                case Tokens.MISER: readPerson(true); break;
                case Tokens.CLOCK: readClock(); break;
                case Tokens.ASKS: readRule(told.asks); break;
                case Tokens.SAYS: readRule(told.says); break;
                default: fail(CANT_STAND); break;
            }
        }

        private void readCorners() {
            if (told.people > 0) {
                fail(CORNERS_TOO_LATE);
            } else if (isCornersTold) {
                fail(TOLD_AGAIN);
            } else {
                isCornersTold = true;
                goOn();
                told.corners = needNumber(FEWEST_CORNERS, MOST_CORNERS);
            }
        }

        private void readClock() {
            if (isClockTold) {
                fail(TOLD_AGAIN);
            } else {
                isClockTold = true;
                goOn();
                told.clock = needNumber(0, HOUR - 1);
            }
        }

        private void readPerson(boolean isMiser) {
            if (!told.hasRoom()) {
                fail(TOO_MUCH);
                return;
            }
            goOn();
            int left = needNumber(0, MOST_LEFT);
            int watch = needNumber(0, HOUR - 1);
            int mean = needNumber(0, MOST_MEAN);
            needCorner(0);
            for (int k = 1; k <= MOST_WALK && isNumber(); k++) {
                needCorner(k);
            }
            told.addPerson(left, watch, mean, isMiser);
        }

        private void needCorner(int k) {
            int corner = tokens.numberAt(at);
            if (!isNumber()) {
                fail(CANT_STAND);
            } else if (kind == Tokens.LONG_NUMBER || k >= MOST_WALK) {
                fail(TOO_MUCH);
            } else if (corner >= told.corners) {
                fail(ISNT_THERE);
            } else {
                told.addCorner(corner);
                goOn();
            }
        }

        // ---- EXPRS

        private void readRule(Rule which) {
            if (which.isTold()) {
                fail(TOLD_AGAIN);
                return;
            }
            rule = which;
            goOn();
            readOr(0);
        }

        private void readOr(int within) {
            if (within >= MOST_WITHIN) {
                fail(isNumber() || isWord() || kind == '(' ? TOO_MUCH : CANT_STAND);
                return;
            }
            readAnd(within);
            for (int n = 0; n < MOST_BYTES && kind == Tokens.OR; n++) {
                goOn();
                readAnd(within);
                rule.add(Tokens.OR);
            }
        }

        private void readAnd(int within) {
            readNot(within);
            for (int n = 0; n < MOST_BYTES && kind == Tokens.AND; n++) {
                goOn();
                readNot(within);
                rule.add(Tokens.AND);
            }
        }

        private void readNot(int within) {
            int nots = 0;
            while (nots < MOST_NOTS && kind == Tokens.NOT) {
                goOn();
                nots++;
            }
            if (kind == Tokens.NOT) {
                fail(TOO_MUCH);
            }
            readTest(within);
            for (int n = 0; n < nots; n++) {
                rule.add(Tokens.NOT);
            }
        }

        private void readTest(int within) {
            readSum(within);
            if (kind == '<' || kind == '=') {
                int sign = kind;
                goOn();
                readSum(within);
                rule.add(sign);
            }
        }

        private void readSum(int within) {
            readProduct(within);
            for (int n = 0; n < MOST_BYTES && (kind == '+' || kind == '-'); n++) {
                int sign = kind;
                goOn();
                readProduct(within);
                rule.add(sign);
            }
        }

        private void readProduct(int within) {
            readPart(within);
            for (int n = 0; n < MOST_BYTES && (kind == '*' || kind == '/'); n++) {
                int sign = kind;
                goOn();
                readPart(within);
                rule.add(sign);
            }
        }

        private void readPart(int within) {
            if (isNumber()) {
                rule.add(~needNumber(0, MOST_NUMBER));
            } else if (isValue()) {
                rule.add(kind);
                goOn();
            } else if (isWord()) {
                fail(ISNT_THERE);
            } else if (kind == '(') {
                goOn();
                readOr(within + 1);
                needSign(')');
            } else {
                fail(CANT_STAND);
            }
        }

        /** Whether it is a VALUE of this EXPR: two are of SAYS alone. */
        private boolean isValue() {
            int last = rule == told.says ? Tokens.GIVEN : Tokens.STEP;
            return kind >= Tokens.LEFT && kind <= last;
        }
    }

    /** All that STEPS and ACTS change, and MEAN, which a GAME changes. */
    private static final class State {
        private final int[] left = new int[MOST_PEOPLE];
        private final int[] watch = new int[MOST_PEOPLE];
        private final int[] mean = new int[MOST_PEOPLE];
        private final int[] given = new int[MOST_PEOPLE];
        private int staying = 0;
        private boolean stopped = false;
        private int clock = 0;
        private int step = 0;

        void beginOn(Quay quay) {
            System.arraycopy(quay.left, 0, left, 0, MOST_PEOPLE);
            System.arraycopy(quay.watch, 0, watch, 0, MOST_PEOPLE);
            System.arraycopy(quay.mean, 0, mean, 0, MOST_PEOPLE);
            Arrays.fill(given, 0);
            staying = 0;
            stopped = false;
            clock = quay.clock;
            step = 0;
        }

        void become(State other) {
            System.arraycopy(other.left, 0, left, 0, MOST_PEOPLE);
            System.arraycopy(other.watch, 0, watch, 0, MOST_PEOPLE);
            System.arraycopy(other.mean, 0, mean, 0, MOST_PEOPLE);
            System.arraycopy(other.given, 0, given, 0, MOST_PEOPLE);
            staying = other.staying;
            stopped = other.stopped;
            clock = other.clock;
            step = other.step;
        }

        int leftOf(int p) {
            return p >= 0 && p < left.length ? left[p] : 0;
        }

        int watchOf(int p) {
            return p >= 0 && p < watch.length ? watch[p] : 0;
        }

        int meanOf(int p) {
            return p >= 0 && p < mean.length ? mean[p] : 0;
        }

        int givenBy(int p) {
            return p >= 0 && p < given.length ? given[p] : 0;
        }

        int shownBy(int p) {
            int set = p >= 0 && p < watch.length ? watch[p] : 0;
            return (clock + set + HOUR - USUAL_WATCH) % HOUR;
        }

        boolean isSpent(int p) {
            return p < 0 || p >= left.length || left[p] <= 0;
        }

        boolean staysIn(int p) {
            return (staying >> p & 1) == 1;
        }

        int aliveBits() {
            int bits = 0;
            for (int p = 0; p < left.length; p++) {
                if (left[p] > 0) {
                    bits |= 1 << p;
                }
            }
            return bits;
        }

        int total() {
            int sum = 0;
            for (int p = 0; p < left.length; p++) {
                sum += left[p];
            }
            return sum;
        }

        int richestOf(int bits) {
            int best = NONE;
            int most = -1;
            for (int p = 0; p < left.length; p++) {
                if ((bits >> p & 1) == 1 && left[p] > most) {
                    most = left[p];
                    best = p;
                }
            }
            return best;
        }

        int poorestOf(int bits) {
            int best = NONE;
            int least = MOST_LEFT + 1;
            for (int p = 0; p < left.length; p++) {
                if ((bits >> p & 1) == 1 && left[p] < least) {
                    least = left[p];
                    best = p;
                }
            }
            return best;
        }

        void setLeft(int p, int minutes) {
            if (p >= 0 && p < left.length) {
                left[p] = minutes;
            }
        }

        void setWatch(int p, int to) {
            if (p >= 0 && p < watch.length) {
                watch[p] = to;
            }
        }

        void keepIn(int p, boolean is) {
            staying = is ? staying | 1 << p : staying & ~(1 << p);
        }

        void hideWatch(int p) {
            if (p >= 0 && p < mean.length) {
                mean[p] = MOST_MEAN;
                staying |= 1 << p;
            }
        }

        void receive(int p, int minutes) {
            if (p >= 0 && p < left.length) {
                left[p] = Math.min(left[p] + minutes, MOST_LEFT);
            }
        }

        /** One gives so many minutes, or all that are LEFT: how many. */
        int handOver(int p, int minutes) {
            if (p < 0 || p >= MOST_PEOPLE) {
                return 0;
            }
            int handed = Math.min(minutes, left[p]);
            left[p] -= handed;
            given[p] = Math.min(given[p] + handed, MOST_GIVEN);
            return handed;
        }

        void endStep() {
            for (int p = 0; p < left.length; p++) {
                if (left[p] > 0) {
                    left[p]--;
                }
            }
            step++;
            if (!stopped) {
                clock = (clock + FIVE_MINUTES) % HOUR;
            }
        }
    }

    /** Lets STEPS go by, and keeps count of who asked whom, and was given how much. */
    private static final class Port {
        private final int[] corner = new int[MOST_PEOPLE];
        private final int[] bitsAt = new int[MOST_CORNERS];
        private final int[] whom = new int[MOST_PEOPLE];
        private final int[] timesAsked = new int[MOST_PEOPLE];
        private final int[] handed = new int[MOST_PEOPLE * MOST_PEOPLE];
        private final int[] stack = new int[Rule.STACK];
        private int passed = 0;
        private int silentSteps = 0;

        void clear() {
            Arrays.fill(whom, NONE);
            Arrays.fill(timesAsked, 0);
            Arrays.fill(handed, 0);
            passed = 0;
            silentSteps = 0;
        }

        void goOn(Quay quay, State state, int steps) {
            for (int k = 0; k < steps; k++) {
                placeAll(quay, state.step);
                boolean isSilent = true;
                for (int p = 0; p < quay.people; p++) {
                    boolean asks = letAsk(quay, state, p);
                    isSilent = isSilent && !asks;
                }
                silentSteps += isSilent ? 1 : 0;
                state.endStep();
            }
        }

        private void placeAll(Quay quay, int t) {
            Arrays.fill(whom, NONE);
            Arrays.fill(bitsAt, 0);
            for (int p = 0; p < quay.people && p < corner.length; p++) {
                int c = quay.cornerOf(p, t);
                if (c >= 0 && c < bitsAt.length) {
                    corner[p] = c;
                    bitsAt[c] |= 1 << p;
                }
            }
        }

        private int othersAt(int p) {
            int c = p >= 0 && p < corner.length ? corner[p] : NONE;
            return c >= 0 && c < bitsAt.length ? bitsAt[c] & ~(1 << p) : 0;
        }

        private boolean letAsk(Quay quay, State state, int p) {
            int outside = state.aliveBits() & ~state.staying;
            int company = othersAt(p) & outside;
            boolean isOutside = (outside >> p & 1) == 1;
            if (!isOutside || company == 0 || !wantsToAsk(quay, state, p)) {
                return false;
            }
            int richest = state.richestOf(company);
            int minutes = state.handOver(richest, minutesSaid(quay, state, richest, p));
            state.receive(p, minutes);
            note(p, richest, minutes);
            return true;
        }

        private void note(int p, int asked, int minutes) {
            if (p >= 0 && p < MOST_PEOPLE && asked >= 0 && asked < MOST_PEOPLE) {
                whom[p] = asked;
                timesAsked[asked]++;
                handed[asked * MOST_PEOPLE + p] += minutes;
                passed += minutes;
            }
        }

        private boolean wantsToAsk(Quay quay, State state, int p) {
            if (!quay.asks.isTold()) {
                return state.leftOf(p) <= ASKS_WITHOUT_RULE;
            }
            return workOut(quay.asks, state, p, p) > 0;
        }

        private int minutesSaid(Quay quay, State state, int p, int asking) {
            if (quay.isMiser(p)) {
                return Math.max(state.shownBy(p) / 15 - state.meanOf(p), 0);
            }
            if (!quay.says.isTold()) {
                return state.shownBy(p);
            }
            return Math.max(0, Math.min(workOut(quay.says, state, p, asking), HOUR - 1));
        }

        /** What a rule gives of one (and of one who asks). */
        private int workOut(Rule rule, State state, int p, int asking) {
            int top = 0;
            for (int i = 0; i < rule.length && i < rule.codes.length; i++) {
                int code = rule.codes[i];
                if (code < 0 || code >= Tokens.LEFT) {
                    if (top < 0 || top >= stack.length) {
                        return 0;
                    }
                    stack[top] = code < 0 ? ~code : valueOf(code, state, p, asking);
                    top++;
                } else if (code == Tokens.NOT) {
                    if (top < 1 || top > stack.length) {
                        return 0;
                    }
                    stack[top - 1] = stack[top - 1] == 0 ? 1 : 0;
                } else {
                    if (top < 2 || top > stack.length) {
                        return 0;
                    }
                    top--;
                    stack[top - 1] = Rule.join(code, stack[top - 1], stack[top]);
                }
            }
            return top == 1 ? stack[0] : 0;
        }

        private int valueOf(int code, State state, int p, int asking) {
            switch (code) {
                case Tokens.LEFT: return state.leftOf(p);
                case Tokens.SHOWN: return state.shownBy(p);
                case Tokens.MEAN: return state.meanOf(p);
                case Tokens.COMPANY: return Integer.bitCount(othersAt(p) & state.aliveBits());
                case Tokens.STEP: return state.step;
                case Tokens.THEIRS: return state.leftOf(asking);
                default: return state.givenBy(p);
            }
        }

        /** Whom one asked in the latest STEP. */
        int whomAsked(int p) {
            return p >= 0 && p < whom.length ? whom[p] : NONE;
        }

        int timesAsked(int p) {
            return p >= 0 && p < timesAsked.length ? timesAsked[p] : 0;
        }

        int handedOver(int p, int asking) {
            int at = p * MOST_PEOPLE + asking;
            return at >= 0 && at < handed.length ? handed[at] : 0;
        }
    }

    /** ACTS that are kept: how all was ahead of each. */
    private static final class Acts {
        private final State[] kept = new State[MOST_ACTS];
        private int count = 0;

        Acts() {
            for (int i = 0; i < kept.length; i++) {
                kept[i] = new State();
            }
        }

        void clear() {
            count = 0;
        }

        void keep(State state) {
            if (count >= kept.length) {
                dropOldest();
            }
            State free = keptAt(count);
            if (free != null) {
                free.become(state);
                count++;
            }
        }

        private State keptAt(int i) {
            return i >= 0 && i < kept.length ? kept[i] : null;
        }

        private void dropOldest() {
            State oldest = kept[0];
            for (int i = 1; i < kept.length; i++) {
                kept[i - 1] = kept[i];
            }
            count = kept.length - 1;
            kept[count] = oldest;
        }

        boolean takeBack(State state) {
            State last = keptAt(count - 1);
            if (last == null) {
                return false;
            }
            state.become(last);
            count--;
            return true;
        }

        void become(Acts other) {
            count = 0;
            for (int i = 0; i < other.count; i++) {
                State from = other.keptAt(i);
                if (from != null) {
                    keep(from);
                }
            }
        }
    }

    /** What is SEEN: LEFT of whom behind how many STEPS. */
    private static final class Seen {
        private final int[] who = new int[MOST_SEEN];
        private final int[] steps = new int[MOST_SEEN];
        private final int[] left = new int[MOST_SEEN];
        private int count = 0;

        void clear() {
            count = 0;
        }

        boolean add(int person, int behind, int minutes) {
            if (count < 0 || count >= MOST_SEEN) {
                return false;
            }
            who[count] = person;
            steps[count] = behind;
            left[count] = minutes;
            count++;
            return true;
        }

        int lastStep() {
            int last = 0;
            for (int i = 0; i < count && i < MOST_SEEN; i++) {
                last = Math.max(last, steps[i]);
            }
            return last;
        }

        boolean isSoBehind(int step, State state) {
            for (int i = 0; i < count && i < MOST_SEEN; i++) {
                if (steps[i] == step && state.leftOf(who[i]) != left[i]) {
                    return false;
                }
            }
            return true;
        }

        void become(Seen other) {
            System.arraycopy(other.who, 0, who, 0, MOST_SEEN);
            System.arraycopy(other.steps, 0, steps, 0, MOST_SEEN);
            System.arraycopy(other.left, 0, left, 0, MOST_SEEN);
            count = other.count;
        }
    }

    /** How all was when the image was made. */
    private static final class Image {
        private final State state = new State();
        private final Acts acts = new Acts();
        private final Seen seen = new Seen();
        private final int[] status = new int[STATUSES];
        private boolean isKept = false;
    }

    /** PAIRS: the best for each set of PEOPLE, from smaller sets. */
    private static final class Couples {
        private static final int A_COUPLE = 10000;
        private static final int NOT_TOGETHER = -1;

        private final int[] worth = new int[1 << MOST_PEOPLE];
        private final int[] firstTakes = new int[1 << MOST_PEOPLE];
        private final int[] other = new int[MOST_PEOPLE];
        private final int[] differ = new int[MOST_PEOPLE * MOST_PEOPLE];
        private int many = 0;
        private int difference = 0;

        void join(Quay quay, State state) {
            int people = Math.max(0, Math.min(quay.people, MOST_PEOPLE));
            compareAll(quay, state, people);
            int sets = 1 << people;
            worth[0] = 0;
            for (int set = 1; set < sets && set < worth.length; set++) {
                joinFirstOf(set);
            }
            readRow(sets - 1);
        }

        private void compareAll(Quay quay, State state, int people) {
            for (int p = 0; p < people; p++) {
                for (int q = 0; q < people; q++) {
                    boolean isTogether = quay.cornerOf(p, state.step) == quay.cornerOf(q, state.step);
                    int minutes = Math.abs(state.leftOf(p) - state.leftOf(q));
                    differ[p * MOST_PEOPLE + q] = isTogether ? minutes : NOT_TOGETHER;
                }
            }
        }

        /** Of like ones the first other one stays, and with nobody is tried last. */
        private void joinFirstOf(int set) {
            int p = firstOf(set);
            int best = -1;
            int takes = NONE;
            for (int q = p + 1; q < MOST_PEOPLE; q++) {
                int minutes = differ[p * MOST_PEOPLE + q];
                if ((set >> q & 1) == 1 && minutes != NOT_TOGETHER) {
                    int rest = set & ~(1 << p) & ~(1 << q);
                    int together = worth[rest] + A_COUPLE - minutes;
                    if (together > best) {
                        best = together;
                        takes = q;
                    }
                }
            }
            int alone = worth[set & ~(1 << p)];
            worth[set] = Math.max(best, alone);
            firstTakes[set] = alone > best ? NONE : takes;
        }

        private static int firstOf(int set) {
            int p = 0;
            while (p < MOST_PEOPLE - 1 && (set >> p & 1) == 0) {
                p++;
            }
            return p;
        }

        private void readRow(int everyone) {
            Arrays.fill(other, NONE);
            many = 0;
            difference = 0;
            int set = everyone;
            for (int n = 0; n < MOST_PEOPLE && set > 0 && set < firstTakes.length; n++) {
                int p = firstOf(set);
                int q = firstTakes[set];
                set &= ~(1 << p);
                if (p < MOST_PEOPLE && q >= 0 && q < MOST_PEOPLE) {
                    set &= ~(1 << q);
                    other[p] = q;
                    other[q] = p;
                    many++;
                    difference += differ[p * MOST_PEOPLE + q];
                }
            }
        }

        int otherOf(int p) {
            return p >= 0 && p < other.length ? other[p] : NONE;
        }
    }

    /** How many unlike numbers each of PEOPLE had LEFT. */
    private static final class Unlike {
        private static final int BITS = 64;
        private static final int ROW = MOST_LEFT / BITS + 1;

        private final long[] isThere = new long[MOST_PEOPLE * ROW];
        private final int[] many = new int[MOST_PEOPLE];

        void clear() {
            Arrays.fill(isThere, 0L);
            Arrays.fill(many, 0);
        }

        void addAll(State state, int people) {
            for (int p = 0; p < people && p < many.length; p++) {
                int left = state.leftOf(p);
                int at = p * ROW + left / BITS;
                long bit = 1L << left % BITS;
                if (at >= 0 && at < isThere.length && (isThere[at] & bit) == 0) {
                    isThere[at] |= bit;
                    many[p]++;
                }
            }
        }

        int most() {
            int best = NONE;
            int most = 0;
            for (int p = 0; p < many.length; p++) {
                if (many[p] > most) {
                    most = many[p];
                    best = p;
                }
            }
            return best;
        }

        int howMany(int p) {
            return p >= 0 && p < many.length ? many[p] : 0;
        }
    }
}
