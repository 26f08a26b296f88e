import java.util.Arrays;

/**
 * Machines with DEEDS that are SEEN or not and some that are FAULTS: what is KNOWN of them by what
 * is SEEN, and whether a FAULT is told apart at last. The words in capitals are the document's.
 */
public final class FaultTwins {
    public static final int NONE = -1, BAD = -2, NO = -3, FULL = -4;

    private static final int PLACES = 10;
    private static final int MARKS = 2 * PLACES;
    private static final int DEEDS = 8;
    private static final int EVERY_DEED = 255;
    private static final int MOST_WAYS = 24;
    private static final int MOST_SIGHTS = 8;
    private static final int MOST_STATES = 6;
    private static final int MOST_SETS = 500;
    private static final int MOST_BYTES = 120;
    private static final int MOST_SEED = 999999;

    /** The VERDICTS; that of no FAULT at all is 0. */
    private static final int SURE = 1, MAYBE = 2;

    private final State now = new State();
    private final History history = new History();
    private final View view = new View();
    private final Sets sets = new Sets();
    private final Twins twins = new Twins();
    private final Twins trial = new Twins();
    private final Text text = new Text();
    private final Reader reader = new Reader();
    private int bads;
    private int noes;
    private int fulls;
    private int fewestEyes;

    /** Whether what was found out of the machine holds yet: each is found when it is first asked. */
    private boolean setsHold;
    private boolean twinsHold;
    private boolean fewestHold;

    public FaultTwins() {
        beginAnew();
    }

    // ---- the machine

    public int way(int from, int deed, int to) {
        if (!isPlace(from) || !isDeed(deed) || !isPlace(to)) {
            return refuse(BAD);
        }
        if (now.machine.has(from, deed, to)) {
            return refuse(NO);
        }
        if (now.machine.isFull()) {
            return refuse(FULL);
        }
        history.keep(now);
        now.machine.add(from, deed, to);
        beginAnew();
        return now.machine.ways - 1;
    }

    public int drop(int w) {
        if (!isWay(w)) {
            return refuse(BAD);
        }
        history.keep(now);
        now.machine.remove(w);
        beginAnew();
        return now.machine.ways;
    }

    public int deed(int d, int what, int v) {
        if (!isDeed(d) || !isWithin(what, 1) || !isWithin(v, 1)) {
            return refuse(BAD);
        }
        history.keep(now);
        Machine machine = now.machine;
        int before = what == 0 ? machine.seen : machine.faults;
        int after = (before & ~(1 << d)) | (v << d);
        if (what == 0) {
            machine.seen = after;
        } else {
            machine.faults = after;
        }
        beginAnew();
        return before >> d & 1;
    }

    public int draw(int seed, int n) {
        if (!isWithin(seed, MOST_SEED) || n < 1 || n > MOST_WAYS) {
            return refuse(BAD);
        }
        history.keep(now);
        now.machine.drawWays(seed, n);
        beginAnew();
        return now.machine.ways;
    }

    public int anew() {
        history.keep(now);
        int ways = now.machine.ways;
        now.machine.ways = 0;
        now.machine.seen = EVERY_DEED;
        now.machine.faults = 0;
        beginAnew();
        return ways;
    }

    public int of(int w, int what) {
        if (!isWay(w) || !isWithin(what, 3)) {
            return refuse(BAD);
        }
        Machine machine = now.machine;
        switch (what) {
            case 0:
                return machine.from[w];
            case 1:
                return machine.by[w];
            case 2:
                return machine.to[w];
            default:
                return isOne(hasPlace(view.marks, machine.from[w]));
        }
    }

    // ---- what is seen

    public int sees(int deed) {
        if (!isDeed(deed)) {
            return refuse(BAD);
        }
        if (!now.machine.isSeen(deed)) {
            return refuse(NO);
        }
        int set = view.after(now.watch.set, deed);
        if (set == 0) {
            return refuse(NO);
        }
        history.keep(now);
        now.watch.add(deed, set);
        return verdict(set);
    }

    public int restarts() {
        history.keep(now);
        now.watch.begin(view.first());
        return verdict(now.watch.set);
    }

    public int known(int what) {
        if (!isWithin(what, 4)) {
            return refuse(BAD);
        }
        int set = now.watch.set;
        switch (what) {
            case 0:
                return set;
            case 1:
                return verdict(set);
            case 2:
                return Integer.bitCount(set);
            case 3:
                return view.nextSights(set);
            default:
                return isOne(canGoUnseen(set));
        }
    }

    public int would(int deed) {
        if (!isDeed(deed)) {
            return refuse(BAD);
        }
        if (!now.machine.isSeen(deed)) {
            return refuse(NO);
        }
        int set = view.after(now.watch.set, deed);
        return set == 0 ? NONE : verdict(set);
    }

    public int sight(int k) {
        if (k < 0) {
            return refuse(BAD);
        }
        return k < now.watch.count ? now.watch.sights[k] : NONE;
    }

    // ---- all that can be

    public int all(int what) {
        if (!isWithin(what, 5)) {
            return refuse(BAD);
        }
        switch (what) {
            case 0:
                return view.marks;
            case 1:
                return foundSets().count;
            case 2:
                return foundSets().countOf(MAYBE);
            case 3:
                return foundSets().countOf(SURE);
            case 4:
                return foundTwins().countFrom(0);
            default:
                return foundTwins().countFrom(PLACES);
        }
    }

    public int apart(int what) {
        if (!isWithin(what, 1)) {
            return refuse(BAD);
        }
        int delay = foundTwins().delay;
        return what == 0 ? isOne(delay != NONE) : delay;
    }

    public int soonest(int what) {
        if (!isWithin(what, 1)) {
            return refuse(BAD);
        }
        return foundSets().fewestSights(what == 0 ? SURE : MAYBE);
    }

    public int enough(int eyes) {
        if ((eyes & ~now.machine.eyesFree()) != 0) {
            return refuse(BAD);
        }
        return isOne(areEnough(eyes));
    }

    public int fewest(int what) {
        if (!isWithin(what, 1)) {
            return refuse(BAD);
        }
        if (!fewestHold) {
            fewestEyes = findFewest();
            fewestHold = true;
        }
        return what == 0 || fewestEyes == NONE ? fewestEyes : Integer.bitCount(fewestEyes);
    }

    public int pair(int mark, int place) {
        if (!isWithin(mark, MARKS - 1) || !isPlace(place)) {
            return refuse(BAD);
        }
        Twins found = foundTwins();
        if ((found.pairs[mark] >> place & 1) == 0) {
            return 0;
        }
        return mark >= PLACES && found.isOfRing(now.machine, mark - PLACES, place) ? 2 : 1;
    }

    // ---- texts

    public int type(int c) {
        if (!isWithin(c, 127)) {
            return refuse(BAD);
        }
        if (text.length >= MOST_BYTES) {
            return refuse(FULL);
        }
        text.bytes[text.length] = (byte) c;
        text.length++;
        return text.length;
    }

    public int clear() {
        int length = text.length;
        text.length = 0;
        return length;
    }

    public int reads() {
        int orders = reader.follow(text, now.machine);
        if (orders < 0) {
            return orders;
        }
        history.keep(now);
        now.machine.take(reader.draft);
        beginAnew();
        return orders;
    }

    public int back() {
        if (history.count == 0) {
            return refuse(NO);
        }
        history.giveBack(now);
        lookAnew();
        return history.count;
    }

    public int told(int what) {
        if (!isWithin(what, 7)) {
            return refuse(BAD);
        }
        switch (what) {
            case 0:
                return bads;
            case 1:
                return noes;
            case 2:
                return fulls;
            case 3:
                return text.length;
            case 4:
                return now.machine.ways;
            case 5:
                return now.machine.seen;
            case 6:
                return now.machine.faults;
            default:
                return history.count;
        }
    }

    public long digest() {
        long h = 2203;
        for (int what = 0; what <= 7; what++) {
            h = 31 * h + told(what);
        }
        for (int w = 0; w < now.machine.ways; w++) {
            for (int what = 0; what <= 2; what++) {
                h = 31 * h + of(w, what);
            }
        }
        for (int what = 0; what <= 3; what++) {
            h = 31 * h + known(what);
        }
        h = 31 * h + all(0);
        h = 31 * h + all(4);
        h = 31 * h + all(5);
        h = 31 * h + apart(0);
        return 31 * h + apart(1);
    }

    // ---- what the calls share

    private int refuse(int why) {
        if (why == BAD) {
            bads++;
        } else if (why == NO) {
            noes++;
        } else {
            fulls++;
        }
        return why;
    }

    private boolean isWay(int w) {
        return w >= 0 && w < now.machine.ways;
    }

    private static boolean isPlace(int place) {
        return isWithin(place, PLACES - 1);
    }

    private static boolean isDeed(int d) {
        return isWithin(d, DEEDS - 1);
    }

    private static boolean isWithin(int number, int most) {
        return number >= 0 && number <= most;
    }

    private static int isOne(boolean holds) {
        return holds ? 1 : 0;
    }

    /** Whether one of these MARKS is at the PLACE, with a FAULT or without. */
    private static boolean hasPlace(int marks, int place) {
        return (marks >> place & 1) == 1 || (marks >> (place + PLACES) & 1) == 1;
    }

    private static int verdict(int set) {
        int faulty = set >> PLACES;
        if (faulty == 0) {
            return 0;
        }
        return (faulty << PLACES) == set ? SURE : MAYBE;
    }

    private boolean canGoUnseen(int set) {
        Machine machine = now.machine;
        for (int w = 0; w < machine.ways; w++) {
            if (!machine.isSeen(machine.by[w]) && hasPlace(set, machine.from[w])) {
                return true;
            }
        }
        return false;
    }

    /** The machine is another one: KNOWN is as at first. */
    private void beginAnew() {
        lookAnew();
        now.watch.begin(view.first());
    }

    private void lookAnew() {
        view.look(now.machine);
        setsHold = false;
        twinsHold = false;
        fewestHold = false;
    }

    private Sets foundSets() {
        if (!setsHold) {
            sets.find(view);
            setsHold = true;
        }
        return sets;
    }

    private Twins foundTwins() {
        if (!twinsHold) {
            twins.find(now.machine, now.machine.seen);
            twinsHold = true;
        }
        return twins;
    }

    private boolean areEnough(int eyes) {
        trial.find(now.machine, now.machine.seen | eyes);
        return trial.delay != NONE;
    }

    private int findFewest() {
        int free = now.machine.eyesFree();
        // One EYE more never makes a RING: if all of them are not ENOUGH, none are.
        if (!areEnough(free)) {
            return NONE;
        }
        int best = free;
        for (int eyes = 0; eyes < free; eyes++) {
            boolean fewer = Integer.bitCount(eyes) < Integer.bitCount(best);
            if ((eyes & ~free) == 0 && fewer && areEnough(eyes)) {
                best = eyes;
            }
        }
        return best;
    }

    /** WAYS as they come, and what the DEEDS are. */
    private static final class Machine {
        final int[] from = new int[MOST_WAYS];
        final int[] by = new int[MOST_WAYS];
        final int[] to = new int[MOST_WAYS];
        int ways;
        int seen = EVERY_DEED;
        int faults;

        boolean isFull() {
            return ways >= MOST_WAYS;
        }

        boolean isSeen(int d) {
            return (seen >> d & 1) == 1;
        }

        boolean isFault(int d) {
            return (faults >> d & 1) == 1;
        }

        /** The DEEDS that EYES may be of. */
        int eyesFree() {
            return EVERY_DEED & ~seen & ~faults;
        }

        boolean has(int start, int d, int end) {
            for (int w = 0; w < ways; w++) {
                if (from[w] == start && by[w] == d && to[w] == end) {
                    return true;
                }
            }
            return false;
        }

        void add(int start, int d, int end) {
            if (!isFull()) {
                from[ways] = start;
                by[ways] = d;
                to[ways] = end;
                ways++;
            }
        }

        void remove(int gone) {
            for (int w = gone + 1; w < ways; w++) {
                from[w - 1] = from[w];
                by[w - 1] = by[w];
                to[w - 1] = to[w];
            }
            ways--;
        }

        void drawWays(int seed, int n) {
            ways = 0;
            long x = seed;
            for (int i = 0; i < n; i++) {
                x = (x * 1103515245L + 12345L) % 2147483648L;
                int start = (int) (x / 65536 % 6);
                int d = (int) (x / 1024 % 8);
                int end = (int) (x / 32768 % 6);
                if (!has(start, d, end)) {
                    add(start, d, end);
                }
            }
        }

        /** The MARK to which the WAY leads from a MARK at its FROM. */
        int markBehind(int w, int mark) {
            boolean faulty = mark >= PLACES || (faults >> by[w] & 1) == 1;
            return faulty ? to[w] + PLACES : to[w];
        }

        void take(Machine other) {
            System.arraycopy(other.from, 0, from, 0, MOST_WAYS);
            System.arraycopy(other.by, 0, by, 0, MOST_WAYS);
            System.arraycopy(other.to, 0, to, 0, MOST_WAYS);
            ways = other.ways;
            seen = other.seen;
            faults = other.faults;
        }
    }

    /** KNOWN, and the last sights since it was as at first, the last one ahead. */
    private static final class Watch {
        final int[] sights = new int[MOST_SIGHTS];
        int count;
        int set;

        void begin(int first) {
            count = 0;
            set = first;
        }

        void add(int d, int behind) {
            for (int k = MOST_SIGHTS - 1; k > 0; k--) {
                sights[k] = sights[k - 1];
            }
            sights[0] = d;
            count = Math.min(count + 1, MOST_SIGHTS);
            set = behind;
        }

        void take(Watch other) {
            System.arraycopy(other.sights, 0, sights, 0, MOST_SIGHTS);
            count = other.count;
            set = other.set;
        }
    }

    private static final class State {
        final Machine machine = new Machine();
        final Watch watch = new Watch();

        void take(State other) {
            machine.take(other.machine);
            watch.take(other.watch);
        }
    }

    /** The STATES to go back to, in a round, so that the oldest one is lost first. */
    private static final class History {
        private final State[] states = new State[MOST_STATES];
        private int next;
        int count;

        History() {
            for (int i = 0; i < MOST_STATES; i++) {
                states[i] = new State();
            }
        }

        void keep(State now) {
            states[next].take(now);
            next = next == MOST_STATES - 1 ? 0 : next + 1;
            count = Math.min(count + 1, MOST_STATES);
        }

        void giveBack(State now) {
            if (count > 0) {
                next = next == 0 ? MOST_STATES - 1 : next - 1;
                count--;
                now.take(states[next]);
            }
        }
    }

    /** What comes of MARKS, in rows, so that a step of KNOWN is a look into them. */
    private static final class View {
        /** Of each MARK: itself and all that come of it by DEEDS not SEEN. */
        private final int[] unseen = new int[MARKS];
        /** Of each SEEN DEED and MARK: all that come by it, and of these by DEEDS not SEEN. */
        private final int[] behind = new int[DEEDS * MARKS];
        /** The MARKS that can be. */
        int marks;

        void look(Machine machine) {
            findUnseen(machine);
            findBehind(machine);
            findMarks(machine);
        }

        int first() {
            return unseen[0];
        }

        /** KNOWN behind the sight of a DEED; 0: it can not be. */
        int after(int set, int d) {
            int sum = 0;
            for (int mark = 0; mark < MARKS; mark++) {
                if ((set >> mark & 1) == 1) {
                    sum |= behind[d * MARKS + mark];
                }
            }
            return sum;
        }

        int nextSights(int set) {
            int sights = 0;
            for (int d = 0; d < DEEDS; d++) {
                if (after(set, d) != 0) {
                    sights |= 1 << d;
                }
            }
            return sights;
        }

        private void findUnseen(Machine machine) {
            for (int mark = 0; mark < MARKS; mark++) {
                unseen[mark] = 1 << mark;
            }
            boolean grew = true;
            for (int round = 0; round < MARKS && grew; round++) {
                grew = growUnseen(machine);
            }
        }

        private boolean growUnseen(Machine machine) {
            boolean grew = false;
            for (int w = 0; w < machine.ways; w++) {
                if (!machine.isSeen(machine.by[w])) {
                    for (int mark = machine.from[w]; mark < MARKS; mark += PLACES) {
                        int sum = unseen[mark] | unseen[machine.markBehind(w, mark)];
                        grew = grew || sum != unseen[mark];
                        unseen[mark] = sum;
                    }
                }
            }
            return grew;
        }

        private void findBehind(Machine machine) {
            Arrays.fill(behind, 0);
            for (int w = 0; w < machine.ways; w++) {
                int d = machine.by[w];
                if (machine.isSeen(d)) {
                    for (int mark = machine.from[w]; mark < MARKS; mark += PLACES) {
                        behind[d * MARKS + mark] |= unseen[machine.markBehind(w, mark)];
                    }
                }
            }
        }

        private void findMarks(Machine machine) {
            marks = 1;
            boolean grew = true;
            for (int round = 0; round < MARKS && grew; round++) {
                int before = marks;
                for (int w = 0; w < machine.ways; w++) {
                    for (int mark = machine.from[w]; mark < MARKS; mark += PLACES) {
                        if ((marks >> mark & 1) == 1) {
                            marks |= 1 << machine.markBehind(w, mark);
                        }
                    }
                }
                grew = marks != before;
            }
        }
    }

    /** The sets of KNOWN that can be, as they are found. */
    private static final class Sets {
        /** More than twice as many as sets, and a power of two, so that a free slot is near. */
        private static final int SLOTS = 1024;
        private static final int SPREAD = 0x9E3779B1;
        private static final int SPREAD_SHIFT = 22;

        private final int[] found = new int[MOST_SETS];
        private final int[] sights = new int[MOST_SETS];
        /** Where a set stands in found, and 1; 0: the slot is free. */
        private final int[] slots = new int[SLOTS];
        int count;

        void find(View view) {
            Arrays.fill(slots, 0);
            count = 0;
            enter(view.first(), 0);
            for (int i = 0; i < MOST_SETS && i < count; i++) {
                for (int d = 0; d < DEEDS; d++) {
                    int set = view.after(found[i], d);
                    if (set != 0) {
                        enter(set, sights[i] + 1);
                    }
                }
            }
        }

        private void enter(int set, int depth) {
            int start = (set * SPREAD) >>> SPREAD_SHIFT;
            for (int k = 0; k < SLOTS && count < MOST_SETS; k++) {
                int slot = (start + k) & (SLOTS - 1);
                if (slots[slot] == 0) {
                    found[count] = set;
                    sights[count] = depth;
                    count++;
                    slots[slot] = count;
                    return;
                }
                if (found[slots[slot] - 1] == set) {
                    return;
                }
            }
        }

        int countOf(int wanted) {
            int sum = 0;
            for (int i = 0; i < count; i++) {
                if (verdict(found[i]) == wanted) {
                    sum++;
                }
            }
            return sum;
        }

        /** The sets stand in the order of their sights, so the first one is the soonest. */
        int fewestSights(int wanted) {
            for (int i = 0; i < count; i++) {
                if (verdict(found[i]) == wanted) {
                    return sights[i];
                }
            }
            return NONE;
        }
    }

    /** TWINS of a machine, if just these DEEDS are SEEN. Sets of PLACES of the second one are bits. */
    private static final class Twins {
        private int seen;
        /** Of each PLACE of the second one: itself and all to which it comes alone. */
        private final int[] alone = new int[PLACES];
        /** Of each SEEN DEED, no FAULT, and PLACE: all to which the second one comes by it, then alone. */
        private final int[] along = new int[DEEDS * PLACES];
        /** Of each MARK: the PLACES with which it is a pair that can be. */
        final int[] pairs = new int[MARKS];
        /** DELAY; NONE: there is a RING. */
        int delay;
        private final int[] here = new int[PLACES];
        private final int[] ahead = new int[PLACES];
        private final int[] gone = new int[PLACES];

        void find(Machine machine, int deedsSeen) {
            seen = deedsSeen;
            findAlone(machine);
            findAlong(machine);
            findPairs(machine);
            delay = findDelay(machine);
        }

        private boolean isSeen(int d) {
            return (seen >> d & 1) == 1;
        }

        private void findAlone(Machine machine) {
            for (int place = 0; place < PLACES; place++) {
                alone[place] = 1 << place;
            }
            boolean grew = true;
            for (int round = 0; round < PLACES && grew; round++) {
                grew = growAlone(machine);
            }
        }

        private boolean growAlone(Machine machine) {
            boolean grew = false;
            for (int w = 0; w < machine.ways; w++) {
                int d = machine.by[w];
                if (!isSeen(d) && !machine.isFault(d)) {
                    int place = machine.from[w];
                    int sum = alone[place] | alone[machine.to[w]];
                    grew = grew || sum != alone[place];
                    alone[place] = sum;
                }
            }
            return grew;
        }

        private void findAlong(Machine machine) {
            Arrays.fill(along, 0);
            for (int w = 0; w < machine.ways; w++) {
                int d = machine.by[w];
                if (isSeen(d) && !machine.isFault(d)) {
                    along[d * PLACES + machine.from[w]] |= alone[machine.to[w]];
                }
            }
        }

        /** Where the second one can be, when the first one has gone a WAY by the DEED. */
        private int partners(int d, int places) {
            if ((seen >> d & 1) == 0) {
                return places;
            }
            int sum = 0;
            for (int place = 0; place < PLACES; place++) {
                if ((places >> place & 1) == 1) {
                    sum |= along[d * PLACES + place];
                }
            }
            return sum;
        }

        private void findPairs(Machine machine) {
            Arrays.fill(pairs, 0);
            pairs[0] = alone[0];
            boolean grew = true;
            for (int round = 0; round < MARKS * PLACES && grew; round++) {
                grew = growPairs(machine);
            }
        }

        private boolean growPairs(Machine machine) {
            boolean grew = false;
            for (int w = 0; w < machine.ways; w++) {
                for (int mark = machine.from[w]; mark < MARKS; mark += PLACES) {
                    int end = machine.markBehind(w, mark);
                    int sum = pairs[end] | partners(machine.by[w], pairs[mark]);
                    grew = grew || sum != pairs[end];
                    pairs[end] = sum;
                }
            }
            return grew;
        }

        /**
         * Takes the DOUBTFUL pairs that are behind one WAY of the MARK, then behind two, and so on.
         * Each time they are some of those before: are they as many, they are the same for ever.
         */
        private int findDelay(Machine machine) {
            System.arraycopy(pairs, PLACES, here, 0, PLACES);
            int left = countOf(here, 0);
            for (int ways = 0; ways <= PLACES * PLACES; ways++) {
                goOn(machine, here, ahead);
                int rest = countOf(ahead, 0);
                if (rest == 0) {
                    return ways;
                }
                if (rest == left) {
                    return NONE;
                }
                System.arraycopy(ahead, 0, here, 0, PLACES);
                left = rest;
            }
            return NONE;
        }

        /** One WAY of the MARK, from all these DOUBTFUL pairs (by the PLACE of the MARK). */
        private void goOn(Machine machine, int[] start, int[] end) {
            Arrays.fill(end, 0);
            for (int w = 0; w < machine.ways; w++) {
                end[machine.to[w]] |= partners(machine.by[w], start[machine.from[w]]);
            }
        }

        /** Whether a DOUBTFUL pair comes to itself with a WAY of the MARK. */
        boolean isOfRing(Machine machine, int place, int other) {
            Arrays.fill(here, 0);
            here[place] = alone[other];
            goOn(machine, here, gone);
            boolean grew = true;
            for (int round = 0; round < PLACES * PLACES && grew; round++) {
                goOn(machine, gone, ahead);
                grew = addAheadToGone();
            }
            return (gone[place] >> other & 1) == 1;
        }

        private boolean addAheadToGone() {
            boolean grew = false;
            for (int place = 0; place < PLACES; place++) {
                grew = grew || (ahead[place] & ~gone[place]) != 0;
                gone[place] |= ahead[place];
            }
            return grew;
        }

        int countFrom(int mark) {
            return countOf(pairs, mark);
        }

        private static int countOf(int[] rows, int start) {
            int sum = 0;
            for (int i = start; i < rows.length; i++) {
                sum += Integer.bitCount(rows[i]);
            }
            return sum;
        }
    }

    private static final class Text {
        final byte[] bytes = new byte[MOST_BYTES];
        int length;
    }

    /** Follows ORDERS on a draft of the machine, so that a FAULT of THE TEXT leaves the machine. */
    private static final class Reader {
        private static final int BLANK = 32;
        private static final int FAULT_BASE = -10;

        /** What stood last in the ORDER that is read. */
        private static final int NOTHING = 0, FIGURE = 1, LETTER = 2, WHOLE_WAY = 3, FAULTS = 4, UNSEEN = 5;

        final Machine draft = new Machine();
        private int stage;
        private int orders;
        private int wayPlace;
        private int wayFrom;
        private int wayDeed;
        private int letters;

        /** How many ORDERS were followed, or -10 less the FAULT. */
        int follow(Text text, Machine machine) {
            draft.take(machine);
            stage = NOTHING;
            orders = 0;
            for (int place = 0; place < text.length; place++) {
                int c = text.bytes[place];
                if (c != BLANK) {
                    int fault = take(c, place);
                    if (fault != NONE) {
                        return FAULT_BASE - fault;
                    }
                }
            }
            return stage != NOTHING || orders == 0 ? FAULT_BASE - text.length : orders;
        }

        /** The FAULT that a byte makes, or NONE. */
        private int take(int c, int place) {
            switch (stage) {
                case NOTHING:
                    return takeFirst(c, place);
                case FIGURE:
                    return takeDeed(c, place);
                case LETTER:
                    return takeTo(c, place);
                case WHOLE_WAY:
                    return takeEnd(c, place);
                default:
                    return takeInList(c, place);
            }
        }

        private int takeFirst(int c, int place) {
            if (c == '!' || c == '?') {
                stage = c == '!' ? FAULTS : UNSEEN;
                letters = 0;
                return NONE;
            }
            if (!isFigure(c) || draft.isFull()) {
                return place;
            }
            wayPlace = place;
            wayFrom = c - '0';
            stage = FIGURE;
            return NONE;
        }

        private int takeDeed(int c, int place) {
            if (!isLetter(c)) {
                return place;
            }
            wayDeed = c - 'a';
            stage = LETTER;
            return NONE;
        }

        private int takeTo(int c, int place) {
            if (!isFigure(c)) {
                return place;
            }
            int end = c - '0';
            if (draft.has(wayFrom, wayDeed, end)) {
                return wayPlace;
            }
            draft.add(wayFrom, wayDeed, end);
            stage = WHOLE_WAY;
            return NONE;
        }

        private int takeEnd(int c, int place) {
            if (c != ';') {
                return place;
            }
            orders++;
            stage = NOTHING;
            return NONE;
        }

        private int takeInList(int c, int place) {
            if (isLetter(c)) {
                letters |= 1 << (c - 'a');
                return NONE;
            }
            if (c == ';' && stage == FAULTS) {
                draft.faults = letters;
            } else if (c == ';') {
                draft.seen = EVERY_DEED & ~letters;
            }
            return takeEnd(c, place);
        }

        private static boolean isFigure(int c) {
            return c >= '0' && c <= '9';
        }

        private static boolean isLetter(int c) {
            return c >= 'a' && c <= 'h';
        }
    }
}
