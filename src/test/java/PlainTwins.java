import java.util.ArrayDeque;
import java.util.ArrayList;
import java.util.Deque;
import java.util.HashMap;
import java.util.HashSet;
import java.util.LinkedHashMap;
import java.util.List;
import java.util.Map;
import java.util.Set;
import java.util.TreeSet;

/**
 * The document written out once more with sets and lists, step by step and without any care for
 * speed: random runs of calls are answered by it and by FaultTwins.
 */
final class PlainTwins {
    static final int NONE = -1, BAD = -2, NO = -3, FULL = -4;

    record Way(int from, int deed, int to) { }

    record Mark(int place, boolean fault) {
        int number() {
            return (fault ? 10 : 0) + place;
        }
    }

    record Pair(Mark mark, int place) { }

    record Step(Pair to, boolean ofMark) { }

    record Machine(List<Way> ways, Set<Integer> seen, Set<Integer> faults) { }

    record State(Machine machine, Set<Mark> known, List<Integer> sights) { }

    private State now;
    private final Deque<State> states = new ArrayDeque<>();
    private final int[] refused = new int[3];
    private String text = "";

    PlainTwins() {
        now = begin(fresh());
    }

    private static Machine fresh() {
        return new Machine(List.of(), Set.of(0, 1, 2, 3, 4, 5, 6, 7), Set.of());
    }

    private State begin(Machine machine) {
        return new State(machine, quiet(machine, Set.of(new Mark(0, false))), List.of());
    }

    private void go(State next) {
        states.addLast(now);
        if (states.size() > 6) {
            states.removeFirst();
        }
        now = next;
    }

    private int refuse(int why) {
        refused[-2 - why]++;
        return why;
    }

    private static boolean in(int number, int least, int most) {
        return least <= number && number <= most;
    }

    // ---- the machine

    int way(int from, int deed, int to) {
        if (!in(from, 0, 9) || !in(deed, 0, 7) || !in(to, 0, 9)) {
            return refuse(BAD);
        }
        Machine m = now.machine();
        Way way = new Way(from, deed, to);
        if (m.ways().contains(way)) {
            return refuse(NO);
        }
        if (m.ways().size() == 24) {
            return refuse(FULL);
        }
        List<Way> ways = new ArrayList<>(m.ways());
        ways.add(way);
        go(begin(new Machine(ways, m.seen(), m.faults())));
        return ways.indexOf(way);
    }

    int drop(int w) {
        Machine m = now.machine();
        if (!in(w, 0, m.ways().size() - 1)) {
            return refuse(BAD);
        }
        List<Way> ways = new ArrayList<>(m.ways());
        ways.remove(w);
        go(begin(new Machine(ways, m.seen(), m.faults())));
        return ways.size();
    }

    int deed(int d, int what, int v) {
        if (!in(d, 0, 7) || !in(what, 0, 1) || !in(v, 0, 1)) {
            return refuse(BAD);
        }
        Machine m = now.machine();
        Set<Integer> deeds = new TreeSet<>(what == 0 ? m.seen() : m.faults());
        int was = deeds.contains(d) ? 1 : 0;
        if (v == 1) {
            deeds.add(d);
        } else {
            deeds.remove(d);
        }
        go(begin(what == 0 ? new Machine(m.ways(), deeds, m.faults()) : new Machine(m.ways(), m.seen(), deeds)));
        return was;
    }

    int draw(int seed, int n) {
        if (!in(seed, 0, 999999) || !in(n, 1, 24)) {
            return refuse(BAD);
        }
        List<Way> ways = new ArrayList<>();
        java.math.BigInteger x = java.math.BigInteger.valueOf(seed);
        for (int i = 0; i < n; i++) {
            x = x.multiply(java.math.BigInteger.valueOf(1103515245L))
                .add(java.math.BigInteger.valueOf(12345)).mod(java.math.BigInteger.ONE.shiftLeft(31));
            int drawn = x.intValueExact();
            Way way = new Way(drawn / 65536 % 6, drawn / 1024 % 8, drawn / 32768 % 6);
            if (!ways.contains(way)) {
                ways.add(way);
            }
        }
        go(begin(new Machine(ways, now.machine().seen(), now.machine().faults())));
        return ways.size();
    }

    int anew() {
        int were = now.machine().ways().size();
        go(begin(fresh()));
        return were;
    }

    int of(int w, int what) {
        if (!in(w, 0, now.machine().ways().size() - 1) || !in(what, 0, 3)) {
            return refuse(BAD);
        }
        Way way = now.machine().ways().get(w);
        if (what == 3) {
            return marks(now.machine()).stream().anyMatch(m -> m.place() == way.from()) ? 1 : 0;
        }
        return what == 0 ? way.from() : what == 1 ? way.deed() : way.to();
    }

    // ---- what is seen

    private static Mark lead(Machine m, Way way, Mark mark) {
        return new Mark(way.to(), mark.fault() || m.faults().contains(way.deed()));
    }

    private static Set<Mark> quiet(Machine m, Set<Mark> start) {
        Set<Mark> all = new HashSet<>(start);
        Deque<Mark> open = new ArrayDeque<>(start);
        while (!open.isEmpty()) {
            Mark mark = open.remove();
            for (Way way : m.ways()) {
                if (way.from() == mark.place() && !m.seen().contains(way.deed()) && all.add(lead(m, way, mark))) {
                    open.add(lead(m, way, mark));
                }
            }
        }
        return all;
    }

    private static Set<Mark> after(Machine m, Set<Mark> known, int deed) {
        Set<Mark> there = new HashSet<>();
        for (Mark mark : known) {
            for (Way way : m.ways()) {
                if (way.from() == mark.place() && way.deed() == deed) {
                    there.add(lead(m, way, mark));
                }
            }
        }
        return quiet(m, there);
    }

    private static int verdict(Set<Mark> known) {
        long faulty = known.stream().filter(Mark::fault).count();
        return faulty == 0 ? 0 : faulty == known.size() ? 1 : 2;
    }

    private static int bits(Set<Mark> marks) {
        int bits = 0;
        for (Mark mark : marks) {
            bits |= 1 << mark.number();
        }
        return bits;
    }

    int sees(int deed) {
        if (!in(deed, 0, 7)) {
            return refuse(BAD);
        }
        Set<Mark> set = after(now.machine(), now.known(), deed);
        if (!now.machine().seen().contains(deed) || set.isEmpty()) {
            return refuse(NO);
        }
        List<Integer> sights = new ArrayList<>(now.sights());
        sights.add(deed);
        go(new State(now.machine(), set, sights));
        return verdict(set);
    }

    int restarts() {
        go(begin(now.machine()));
        return verdict(now.known());
    }

    int known(int what) {
        if (!in(what, 0, 4)) {
            return refuse(BAD);
        }
        Machine m = now.machine();
        int answer = 0;
        switch (what) {
            case 0 -> answer = bits(now.known());
            case 1 -> answer = verdict(now.known());
            case 2 -> answer = now.known().size();
            case 3 -> {
                for (int deed : m.seen()) {
                    answer |= after(m, now.known(), deed).isEmpty() ? 0 : 1 << deed;
                }
            }
            default -> {
                for (Mark mark : now.known()) {
                    for (Way way : m.ways()) {
                        if (way.from() == mark.place() && !m.seen().contains(way.deed())) {
                            answer = 1;
                        }
                    }
                }
            }
        }
        return answer;
    }

    int would(int deed) {
        if (!in(deed, 0, 7)) {
            return refuse(BAD);
        }
        if (!now.machine().seen().contains(deed)) {
            return refuse(NO);
        }
        Set<Mark> set = after(now.machine(), now.known(), deed);
        return set.isEmpty() ? NONE : verdict(set);
    }

    int sight(int k) {
        if (k < 0) {
            return refuse(BAD);
        }
        List<Integer> sights = now.sights();
        return k >= 8 || k >= sights.size() ? NONE : sights.get(sights.size() - 1 - k);
    }

    // ---- all that can be

    private static Set<Mark> marks(Machine m) {
        return quiet(new Machine(m.ways(), Set.of(), m.faults()), Set.of(new Mark(0, false)));
    }

    /** The sets that can be with their fewest sights, as they are found. */
    private static Map<Set<Mark>, Integer> sets(Machine m) {
        Map<Set<Mark>, Integer> sets = new LinkedHashMap<>();
        List<Set<Mark>> order = new ArrayList<>();
        Set<Mark> first = quiet(m, Set.of(new Mark(0, false)));
        sets.put(first, 0);
        order.add(first);
        for (int i = 0; i < order.size(); i++) {
            for (int deed : new TreeSet<>(m.seen())) {
                Set<Mark> set = after(m, order.get(i), deed);
                if (!set.isEmpty() && !sets.containsKey(set) && order.size() < 500) {
                    sets.put(set, sets.get(order.get(i)) + 1);
                    order.add(set);
                }
            }
        }
        return sets;
    }

    private static List<Step> steps(Machine m, Pair pair) {
        List<Step> steps = new ArrayList<>();
        for (Way one : m.ways()) {
            boolean seen = m.seen().contains(one.deed());
            boolean fault = m.faults().contains(one.deed());
            if (one.from() == pair.mark().place() && !seen) {
                steps.add(new Step(new Pair(lead(m, one, pair.mark()), pair.place()), true));
            }
            if (one.from() == pair.place() && !seen && !fault) {
                steps.add(new Step(new Pair(pair.mark(), one.to()), false));
            }
            for (Way two : m.ways()) {
                if (one.from() == pair.mark().place() && two.from() == pair.place()
                        && one.deed() == two.deed() && seen && !fault) {
                    steps.add(new Step(new Pair(lead(m, one, pair.mark()), two.to()), true));
                }
            }
        }
        return steps;
    }

    private static Set<Pair> comes(Machine m, Set<Pair> start) {
        Set<Pair> all = new HashSet<>(start);
        Deque<Pair> open = new ArrayDeque<>(start);
        while (!open.isEmpty()) {
            for (Step step : steps(m, open.remove())) {
                if (all.add(step.to())) {
                    open.add(step.to());
                }
            }
        }
        return all;
    }

    private static Set<Pair> pairs(Machine m) {
        return comes(m, Set.of(new Pair(new Mark(0, false), 0)));
    }

    /** Whether a step by a WAY of the MARK lies on a round through the pair. */
    private static boolean isOfRing(Machine m, Pair pair) {
        if (!pair.mark().fault()) {
            return false;
        }
        for (Pair there : comes(m, Set.of(pair))) {
            for (Step step : steps(m, there)) {
                if (step.ofMark() && comes(m, Set.of(step.to())).contains(pair)) {
                    return true;
                }
            }
        }
        return false;
    }

    private static boolean toldApart(Machine m) {
        for (Pair pair : pairs(m)) {
            if (isOfRing(m, pair)) {
                return false;
            }
        }
        return true;
    }

    /** The longest of all runs, by lengths that only rise; without a RING they come to rest. */
    private static int delay(Machine m) {
        if (!toldApart(m)) {
            return NONE;
        }
        Map<Pair, Integer> most = new HashMap<>();
        for (Pair pair : pairs(m)) {
            if (pair.mark().fault()) {
                most.put(pair, 0);
            }
        }
        boolean rose = true;
        while (rose) {
            rose = false;
            for (Pair pair : most.keySet()) {
                for (Step step : steps(m, pair)) {
                    int length = most.get(step.to()) + (step.ofMark() ? 1 : 0);
                    if (length > most.get(pair)) {
                        most.put(pair, length);
                        rose = true;
                    }
                }
            }
        }
        return most.values().stream().max(Integer::compare).orElse(0);
    }

    int all(int what) {
        if (!in(what, 0, 5)) {
            return refuse(BAD);
        }
        Machine m = now.machine();
        return switch (what) {
            case 0 -> bits(marks(m));
            case 1 -> sets(m).size();
            case 2 -> (int) sets(m).keySet().stream().filter(s -> verdict(s) == 2).count();
            case 3 -> (int) sets(m).keySet().stream().filter(s -> verdict(s) == 1).count();
            case 4 -> pairs(m).size();
            default -> (int) pairs(m).stream().filter(p -> p.mark().fault()).count();
        };
    }

    int apart(int what) {
        if (!in(what, 0, 1)) {
            return refuse(BAD);
        }
        return what == 1 ? delay(now.machine()) : toldApart(now.machine()) ? 1 : 0;
    }

    int soonest(int what) {
        if (!in(what, 0, 1)) {
            return refuse(BAD);
        }
        int wanted = what == 0 ? 1 : 2;
        return sets(now.machine()).entrySet().stream().filter(e -> verdict(e.getKey()) == wanted)
            .map(Map.Entry::getValue).min(Integer::compare).orElse(NONE);
    }

    private boolean areEyes(int eyes) {
        for (int bit = 0; bit < 32; bit++) {
            boolean free = bit < 8 && !now.machine().seen().contains(bit) && !now.machine().faults().contains(bit);
            if ((eyes >>> bit & 1) == 1 && !free) {
                return false;
            }
        }
        return true;
    }

    private boolean areEnough(int eyes) {
        Set<Integer> seen = new TreeSet<>(now.machine().seen());
        for (int bit = 0; bit < 8; bit++) {
            if ((eyes >> bit & 1) == 1) {
                seen.add(bit);
            }
        }
        return toldApart(new Machine(now.machine().ways(), seen, now.machine().faults()));
    }

    int enough(int eyes) {
        if (!areEyes(eyes)) {
            return refuse(BAD);
        }
        return areEnough(eyes) ? 1 : 0;
    }

    int fewest(int what) {
        if (!in(what, 0, 1)) {
            return refuse(BAD);
        }
        for (int many = 0; many <= 8; many++) {
            for (int eyes = 0; eyes < 256; eyes++) {
                if (Integer.bitCount(eyes) == many && areEyes(eyes) && areEnough(eyes)) {
                    return what == 0 ? eyes : many;
                }
            }
        }
        return NONE;
    }

    int pair(int mark, int place) {
        if (!in(mark, 0, 19) || !in(place, 0, 9)) {
            return refuse(BAD);
        }
        Pair pair = new Pair(new Mark(mark % 10, mark >= 10), place);
        if (!pairs(now.machine()).contains(pair)) {
            return 0;
        }
        return isOfRing(now.machine(), pair) ? 2 : 1;
    }

    // ---- texts

    int type(int c) {
        if (!in(c, 0, 127)) {
            return refuse(BAD);
        }
        if (text.length() == 120) {
            return refuse(FULL);
        }
        text += (char) c;
        return text.length();
    }

    int clear() {
        int length = text.length();
        text = "";
        return length;
    }

    /** Where the next byte that is no blank stands; the length, if there is none. */
    private int skip(int place) {
        int at = place;
        while (at < text.length() && text.charAt(at) == ' ') {
            at++;
        }
        return at;
    }

    private boolean stands(int place, String signs) {
        return place < text.length() && signs.indexOf(text.charAt(place)) >= 0;
    }

    int reads() {
        Machine m = now.machine();
        List<Way> ways = new ArrayList<>(m.ways());
        Set<Integer> seen = m.seen();
        Set<Integer> faults = m.faults();
        int orders = 0;
        int at = skip(0);
        do {
            int start = at;
            if (stands(at, "0123456789")) {
                if (ways.size() == 24) {
                    return -10 - start;
                }
                int letter = skip(at + 1);
                if (!stands(letter, "abcdefgh")) {
                    return -10 - letter;
                }
                int end = skip(letter + 1);
                if (!stands(end, "0123456789")) {
                    return -10 - end;
                }
                Way way = new Way(text.charAt(start) - '0', text.charAt(letter) - 'a', text.charAt(end) - '0');
                if (ways.contains(way)) {
                    return -10 - start;
                }
                ways.add(way);
                at = skip(end + 1);
            } else if (stands(at, "!?")) {
                Set<Integer> deeds = new TreeSet<>();
                at = skip(at + 1);
                while (stands(at, "abcdefgh")) {
                    deeds.add(text.charAt(at) - 'a');
                    at = skip(at + 1);
                }
                if (text.charAt(start) == '!') {
                    faults = deeds;
                } else {
                    seen = new TreeSet<>(Set.of(0, 1, 2, 3, 4, 5, 6, 7));
                    seen.removeAll(deeds);
                }
            } else {
                return -10 - at;
            }
            if (!stands(at, ";")) {
                return -10 - at;
            }
            orders++;
            at = skip(at + 1);
        } while (at < text.length());
        go(begin(new Machine(ways, seen, faults)));
        return orders;
    }

    int back() {
        if (states.isEmpty()) {
            return refuse(NO);
        }
        now = states.removeLast();
        return states.size();
    }

    int told(int what) {
        if (!in(what, 0, 7)) {
            return refuse(BAD);
        }
        Machine m = now.machine();
        return switch (what) {
            case 0, 1, 2 -> refused[what];
            case 3 -> text.length();
            case 4 -> m.ways().size();
            case 5 -> m.seen().stream().mapToInt(d -> 1 << d).sum();
            case 6 -> m.faults().stream().mapToInt(d -> 1 << d).sum();
            default -> states.size();
        };
    }

    long digest() {
        List<Integer> values = new ArrayList<>();
        for (int what = 0; what < 8; what++) {
            values.add(told(what));
        }
        for (Way way : now.machine().ways()) {
            values.addAll(List.of(way.from(), way.deed(), way.to()));
        }
        values.addAll(List.of(known(0), known(1), known(2), known(3)));
        values.addAll(List.of(all(0), all(4), all(5), apart(0), apart(1)));
        long h = 2203;
        for (int v : values) {
            h = 31 * h + v;
        }
        return h;
    }
}
