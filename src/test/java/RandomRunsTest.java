import java.util.Random;

/** Random runs of calls, answered by FaultTwins and by PlainTwins: every answer must be the same. */
public final class RandomRunsTest {
    private static final int RUNS = 240;
    /** Some are counted as fewer than they are: all of a run stays below the 512 of an object. */
    private static final int CALLS = 440;
    private static final String TEXT_SIGNS = "01234abcdefgh;;!?  x9i";

    private final Random random;
    private final Due due;
    private final int run;
    private final FaultTwins got = new FaultTwins();
    private final PlainTwins want = new PlainTwins();
    /** How many PLACES and DEEDS the run's WAYS are of: few make dense machines. */
    private final int places;
    private final int deeds;
    /** Dear calls of the plain one are made seldom. */
    private final int dear;

    private RandomRunsTest(int run, Due due) {
        this.run = run;
        this.due = due;
        random = new Random(7919L * run + 1);
        places = 2 + random.nextInt(9);
        deeds = 2 + random.nextInt(7);
        dear = places > 6 ? 12 : 4;
    }

    public static void main(String[] args) {
        Due due = new Due("RandomRunsTest");
        for (int run = 0; run < RUNS; run++) {
            new RandomRunsTest(run, due).go();
        }
        due.end();
    }

    private void go() {
        int left = CALLS;
        while (left > 0) {
            left -= call(left);
        }
    }

    private boolean seldom(int often) {
        return random.nextInt(often) == 0;
    }

    /** A number of 0 up to below most; now and then one that is not. */
    private int from(int most) {
        return seldom(40) ? beside(most) : random.nextInt(most);
    }

    private int what(int most) {
        return seldom(30) ? beside(most + 1) : random.nextInt(most + 1);
    }

    private int beside(int most) {
        int[] wrong = {-1, most, most + 1, most + 255, Integer.MIN_VALUE, Integer.MAX_VALUE};
        return wrong[random.nextInt(wrong.length)];
    }

    private void is(String call, long answer, long asked) {
        due.is("run " + run + ": " + call, answer, asked);
    }

    /** One call, or the typing of a text; how many calls that was. */
    private int call(int left) {
        switch (random.nextInt(26)) {
            case 0, 1, 2, 3, 4 -> way();
            case 5 -> drop();
            case 6, 7 -> deed();
            case 8, 9, 10, 11, 12 -> sees();
            case 13 -> seen();
            case 14, 15 -> ask();
            case 16 -> askDear();
            case 17 -> back();
            case 18 -> told();
            case 19 -> {
                return text(left);
            }
            case 20 -> wholeMachine();
            case 21 -> would();
            case 22 -> sight();
            case 23 -> known();
            case 24 -> pair();
            default -> of();
        }
        return 1;
    }

    private void way() {
        int from = from(places);
        int d = seldom(40) ? from(8) : random.nextInt(deeds);
        int to = from(places);
        is("way(" + from + ", " + d + ", " + to + ")", got.way(from, d, to), want.way(from, d, to));
    }

    private void drop() {
        int w = from(24);
        is("drop(" + w + ")", got.drop(w), want.drop(w));
    }

    private void deed() {
        int d = from(8);
        int what = what(1);
        int v = what(1);
        if (what == 1 && seldom(2)) {
            v = 0;
        }
        is("deed(" + d + ", " + what + ", " + v + ")", got.deed(d, what, v), want.deed(d, what, v));
    }

    private void sees() {
        int d = from(8);
        is("sees(" + d + ")", got.sees(d), want.sees(d));
    }

    private void would() {
        int d = from(8);
        is("would(" + d + ")", got.would(d), want.would(d));
    }

    private void seen() {
        if (seldom(4)) {
            is("restarts()", got.restarts(), want.restarts());
        } else {
            known();
        }
    }

    private void known() {
        int what = what(4);
        is("known(" + what + ")", got.known(what), want.known(what));
    }

    private void sight() {
        int k = seldom(10) ? beside(10) : random.nextInt(10);
        is("sight(" + k + ")", got.sight(k), want.sight(k));
    }

    private void of() {
        int w = from(24);
        int what = what(3);
        is("of(" + w + ", " + what + ")", got.of(w, what), want.of(w, what));
    }

    private void back() {
        is("back()", got.back(), want.back());
    }

    private void told() {
        int what = what(7);
        is("told(" + what + ")", got.told(what), want.told(what));
    }

    private void pair() {
        int mark = from(20);
        int place = from(places);
        is("pair(" + mark + ", " + place + ")", got.pair(mark, place), want.pair(mark, place));
    }

    private void ask() {
        int what = seldom(30) ? 6 : seldom(30) ? -1 : new int[] {0, 4, 5, 5}[random.nextInt(4)];
        is("all(" + what + ")", got.all(what), want.all(what));
    }

    private void askDear() {
        if (!seldom(dear)) {
            int eyes = random.nextInt(256) & ~got.told(5) & ~got.told(6);
            int some = seldom(10) ? random.nextInt() >> random.nextInt(31) : eyes;
            is("enough(" + some + ")", got.enough(some), want.enough(some));
            return;
        }
        int what = what(1);
        int set = what(5);
        switch (random.nextInt(5)) {
            case 0 -> is("apart(" + what + ")", got.apart(what), want.apart(what));
            case 1 -> is("soonest(" + what + ")", got.soonest(what), want.soonest(what));
            case 2 -> is("fewest(" + what + ")", got.fewest(what), want.fewest(what));
            case 3 -> is("all(" + set + ")", got.all(set), want.all(set));
            default -> is("digest()", got.digest(), want.digest());
        }
    }

    private void wholeMachine() {
        if (seldom(3)) {
            int seed = seldom(12) ? -1 : seldom(12) ? 1000000 : random.nextInt(1000000);
            int n = random.nextInt(26);
            is("draw(" + seed + ", " + n + ")", got.draw(seed, n), want.draw(seed, n));
        } else if (seldom(12)) {
            is("anew()", got.anew(), want.anew());
        }
    }

    private int text(int left) {
        String text = seldom(2) ? rightText() : anyText();
        int length = Math.min(text.length(), left);
        if (seldom(3)) {
            is("clear()", got.clear(), want.clear());
        }
        for (int i = 0; i < length; i++) {
            int c = text.charAt(i);
            is("type(" + c + ")", got.type(c), want.type(c));
        }
        if (seldom(8)) {
            is("type(128)", got.type(128), want.type(128));
            is("type(-1)", got.type(-1), want.type(-1));
        }
        is("reads() of " + text, got.reads(), want.reads());
        return length + 3;
    }

    private String anyText() {
        StringBuilder text = new StringBuilder();
        for (int i = random.nextInt(12); i > 0; i--) {
            text.append(TEXT_SIGNS.charAt(random.nextInt(TEXT_SIGNS.length())));
        }
        return text.toString();
    }

    private String rightText() {
        StringBuilder text = new StringBuilder();
        for (int i = random.nextInt(8); i >= 0; i--) {
            if (seldom(3)) {
                text.append(seldom(2) ? '!' : '?');
                for (int k = random.nextInt(4); k > 0; k--) {
                    text.append((char) ('a' + random.nextInt(deeds)));
                }
            } else {
                text.append(random.nextInt(places)).append((char) ('a' + random.nextInt(deeds)))
                    .append(seldom(5) ? " " : "").append(random.nextInt(places));
            }
            text.append(seldom(6) ? " ;" : ";").append(seldom(6) ? " " : "");
        }
        return text.toString();
    }
}
