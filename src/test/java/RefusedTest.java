import java.util.ArrayList;
import java.util.List;

/**
 * Calls that are refused: by BAD at every argument, by NO and FULL as told. Each answers the first
 * of these, counts once, and leaves all else as it is in an object for which it was never made.
 */
public final class RefusedTest {
    private static final Due DUE = new Due("RefusedTest");
    private static final int MOST = Integer.MAX_VALUE;
    private static final int LEAST = Integer.MIN_VALUE;

    private interface Call {
        long on(FaultTwins x);
    }

    private interface Maker {
        FaultTwins make();
    }

    public static void main(String[] args) {
        Maker[] makers = {FaultTwins::new, RefusedTest::watched, RefusedTest::full};
        String[] names = {"new", "watched", "full"};
        for (int i = 0; i < makers.length; i++) {
            badMachine(names[i], makers[i]);
            badSights(names[i], makers[i]);
            badAll(names[i], makers[i]);
            badTexts(names[i], makers[i]);
            rightEdges(names[i], makers[i]);
            farSights(names[i], makers[i]);
        }
        makersMakeWhatTheySay();
        badWays();
        badEyes();
        noes();
        fulls();
        theFirstOfThem();
        answersThatAreNoRefusal();
        howOften();
        DUE.end();
    }

    /** Two sights behind the beginning, three STATES, a text that can be read. */
    private static FaultTwins watched() {
        FaultTwins x = Due.machine("!g;?gd;0g1;0a2;1a3;2a2;3b3;2d4;");
        x.sees(0);
        x.sees(1);
        Due.type(x, "5h6;");
        return x;
    }

    /** As many of all as may be: 24 WAYS, 120 bytes, 6 STATES, more than 8 sights. */
    private static FaultTwins full() {
        FaultTwins x = new FaultTwins();
        x.deed(6, 1, 1);
        x.deed(6, 0, 0);
        for (int w = 0; w < 24; w++) {
            x.way(w % 3, w / 3, (w + 1) % 3);
        }
        int[] sights = {0, 1, 2, 3, 4, 5, 7, 0, 2, 4};
        for (int d : sights) {
            x.sees(d);
        }
        Due.type(x, "!a;".repeat(40));
        return x;
    }

    private static void makersMakeWhatTheySay() {
        FaultTwins x = full();
        int[] told = {0, 0, 0, 120, 24, 255 & ~64, 64, 6};
        for (int what = 0; what < told.length; what++) {
            DUE.is("full: told(" + what + ")", x.told(what), told[what]);
        }
        DUE.is("full: sight(7)", x.sight(7), 2);
        x = watched();
        DUE.is("watched: STATES", x.told(7), 3);
        DUE.is("watched: sight(1)", x.sight(1), 0);
        DUE.is("watched: reads()", x.reads(), 1);
    }

    /** What is refused changes only how often: just one count, by one. */
    private static void refused(String name, Maker maker, Call call, int why) {
        FaultTwins x = maker.make();
        FaultTwins untouched = maker.make();
        DUE.is(name, call.on(x), why);
        for (int what = 0; what <= 2; what++) {
            int more = -2 - why == what ? 1 : 0;
            DUE.is(name + ": told(" + what + ")", x.told(what), untouched.told(what) + more);
        }
        Alike.look(DUE, name, x, untouched);
    }

    /** Numbers beside what is told: near, far, and some whose low bits alone would be right. */
    private static List<Integer> wrong(int least, int most) {
        List<Integer> wrong = new ArrayList<>();
        for (int by : new int[] {1, 2, 256, 65536, 1 << 20, 1 << 30}) {
            wrong.add(least - by);
            wrong.add(most + by);
        }
        for (int far : new int[] {MOST, MOST - 1, LEAST, LEAST + 1, LEAST + most}) {
            wrong.add(far);
        }
        return wrong;
    }

    private static void badMachine(String state, Maker maker) {
        for (int n : wrong(0, 9)) {
            refused(state + ": way(" + n + ", 0, 0)", maker, x -> x.way(n, 0, 0), FaultTwins.BAD);
            refused(state + ": way(0, 0, " + n + ")", maker, x -> x.way(0, 0, n), FaultTwins.BAD);
        }
        for (int n : wrong(0, 7)) {
            refused(state + ": way(0, " + n + ", 1)", maker, x -> x.way(0, n, 1), FaultTwins.BAD);
            refused(state + ": deed(" + n + ", 0, 0)", maker, x -> x.deed(n, 0, 0), FaultTwins.BAD);
        }
        for (int n : wrong(0, 1)) {
            refused(state + ": deed(0, " + n + ", 1)", maker, x -> x.deed(0, n, 1), FaultTwins.BAD);
            refused(state + ": deed(0, 1, " + n + ")", maker, x -> x.deed(0, 1, n), FaultTwins.BAD);
            refused(state + ": deed(0, 0, " + n + ")", maker, x -> x.deed(0, 0, n), FaultTwins.BAD);
        }
        for (int n : wrong(0, 999999)) {
            refused(state + ": draw(" + n + ", 3)", maker, x -> x.draw(n, 3), FaultTwins.BAD);
        }
        for (int n : wrong(1, 24)) {
            refused(state + ": draw(7, " + n + ")", maker, x -> x.draw(7, n), FaultTwins.BAD);
        }
    }

    private static void badSights(String state, Maker maker) {
        for (int n : wrong(0, 7)) {
            refused(state + ": sees(" + n + ")", maker, x -> x.sees(n), FaultTwins.BAD);
            refused(state + ": would(" + n + ")", maker, x -> x.would(n), FaultTwins.BAD);
        }
        for (int n : wrong(0, 4)) {
            refused(state + ": known(" + n + ")", maker, x -> x.known(n), FaultTwins.BAD);
        }
        for (int n : new int[] {-1, -2, -8, -9, -256, -65536, LEAST + 1, LEAST}) {
            refused(state + ": sight(" + n + ")", maker, x -> x.sight(n), FaultTwins.BAD);
        }
    }

    private static void badAll(String state, Maker maker) {
        for (int n : wrong(0, 5)) {
            refused(state + ": all(" + n + ")", maker, x -> x.all(n), FaultTwins.BAD);
        }
        for (int n : wrong(0, 1)) {
            refused(state + ": apart(" + n + ")", maker, x -> x.apart(n), FaultTwins.BAD);
            refused(state + ": soonest(" + n + ")", maker, x -> x.soonest(n), FaultTwins.BAD);
            refused(state + ": fewest(" + n + ")", maker, x -> x.fewest(n), FaultTwins.BAD);
        }
        for (int n : wrong(0, 19)) {
            refused(state + ": pair(" + n + ", 0)", maker, x -> x.pair(n, 0), FaultTwins.BAD);
        }
        for (int n : wrong(0, 9)) {
            refused(state + ": pair(0, " + n + ")", maker, x -> x.pair(0, n), FaultTwins.BAD);
        }
    }

    private static void badTexts(String state, Maker maker) {
        for (int n : wrong(0, 127)) {
            refused(state + ": type(" + n + ")", maker, x -> x.type(n), FaultTwins.BAD);
        }
        for (int n : wrong(0, 7)) {
            refused(state + ": told(" + n + ")", maker, x -> x.told(n), FaultTwins.BAD);
        }
    }

    /** The numbers of WAYS are those that there are now, not 0 to 23. */
    private static void badWays() {
        badWays("new", FaultTwins::new, 0);
        badWays("watched", RefusedTest::watched, 6);
        badWays("full", RefusedTest::full, 24);
    }

    private static void badWays(String state, Maker maker, int ways) {
        for (int n : wrong(0, ways - 1)) {
            refused(state + ": drop(" + n + ")", maker, x -> x.drop(n), FaultTwins.BAD);
            refused(state + ": of(" + n + ", 0)", maker, x -> x.of(n, 0), FaultTwins.BAD);
            refused(state + ": of(" + n + ", 3)", maker, x -> x.of(n, 3), FaultTwins.BAD);
        }
        for (int n : wrong(0, 3)) {
            refused(state + ": of(" + (ways - 1) + ", " + n + ")", maker, x -> x.of(ways - 1, n), FaultTwins.BAD);
        }
    }

    /** d alone may be an EYE: a bit of no DEED, of a SEEN one and of the FAULT, alone and beside d. */
    private static void badEyes() {
        for (int bit = 0; bit < 32; bit++) {
            if (bit != 3) {
                int alone = 1 << bit;
                int beside = alone | 8;
                refused("watched: enough(" + alone + ")", RefusedTest::watched, x -> x.enough(alone), FaultTwins.BAD);
                refused("watched: enough(" + beside + ")", RefusedTest::watched, x -> x.enough(beside), FaultTwins.BAD);
            }
        }
        for (int eyes : new int[] {-1, MOST, LEAST, LEAST + 1, 255, 256 + 8, -8, 65536 * 8}) {
            refused("watched: enough(" + eyes + ")", RefusedTest::watched, x -> x.enough(eyes), FaultTwins.BAD);
            refused("new: enough(" + eyes + ")", FaultTwins::new, x -> x.enough(eyes), FaultTwins.BAD);
            refused("full: enough(" + eyes + ")", RefusedTest::full, x -> x.enough(eyes), FaultTwins.BAD);
        }
        Maker seenFault = () -> Due.machine("!g;?h;0g1;0h1;");
        refused("a FAULT that is SEEN: enough(64)", seenFault, x -> x.enough(64), FaultTwins.BAD);
        refused("and beside a right one: enough(192)", seenFault, x -> x.enough(192), FaultTwins.BAD);
        DUE.is("the right one alone: enough(128)", seenFault.make().enough(128), 1);
    }

    /** The least and the most that each argument may be. */
    private static void rightEdges(String state, Maker maker) {
        List<Call> calls = List.of(x -> x.deed(0, 0, 0), x -> x.deed(7, 1, 1), x -> x.deed(0, 1, 0), x -> x.deed(7, 0, 1),
            x -> x.draw(0, 1), x -> x.draw(999999, 24), x -> x.draw(0, 24), x -> x.draw(999999, 1),
            x -> x.known(0), x -> x.known(4), x -> x.would(0), x -> x.would(7), x -> x.sight(0), x -> x.sight(MOST),
            x -> x.all(0), x -> x.all(5), x -> x.apart(0), x -> x.apart(1), x -> x.soonest(0), x -> x.soonest(1),
            x -> x.fewest(0), x -> x.fewest(1), x -> x.enough(0), x -> x.pair(0, 0), x -> x.pair(19, 9),
            x -> x.pair(0, 9), x -> x.pair(19, 0), x -> x.told(0), x -> x.told(7));
        for (int i = 0; i < calls.size(); i++) {
            FaultTwins x = maker.make();
            DUE.holds(state + ": right call " + i, calls.get(i).on(x) >= FaultTwins.NONE);
            DUE.is(state + ": right call " + i + " counts not", x.told(0) + x.told(1) + x.told(2), 0);
        }
        FaultTwins x = maker.make();
        x.anew();
        x.clear();
        DUE.is(state + ": way(0, 0, 0)", x.way(0, 0, 0), 0);
        DUE.is(state + ": way(9, 7, 9)", x.way(9, 7, 9), 1);
        DUE.is(state + ": way(0, 7, 9)", x.way(0, 7, 9), 2);
        DUE.is(state + ": way(9, 0, 0)", x.way(9, 0, 0), 3);
        DUE.is(state + ": sees(0)", x.sees(0), 0);
        DUE.is(state + ": sees(7)", x.sees(7), 0);
        DUE.is(state + ": of(0, 0)", x.of(0, 0), 0);
        DUE.is(state + ": of(3, 3)", x.of(3, 3), 1);
        DUE.is(state + ": drop(3)", x.drop(3), 3);
        DUE.is(state + ": drop(0)", x.drop(0), 2);
        DUE.is(state + ": type(0)", x.type(0), 1);
        DUE.is(state + ": type(127)", x.type(127), 2);
        DUE.is(state + ": nothing counts", x.told(0) + x.told(1) + x.told(2), 0);
    }

    /** k has no end above: what is not there is NONE, and no refusal. */
    private static void farSights(String state, Maker maker) {
        FaultTwins x = maker.make();
        for (int k : new int[] {8, 9, 15, 16, 255, 256, 65536, MOST - 1, MOST}) {
            DUE.is(state + ": sight(" + k + ")", x.sight(k), FaultTwins.NONE);
        }
        DUE.is(state + ": sight counts not", x.told(0), 0);
    }

    private static void noes() {
        refused("way that is there", RefusedTest::watched, x -> x.way(0, 6, 1), FaultTwins.NO);
        refused("the last way that is there", RefusedTest::watched, x -> x.way(2, 3, 4), FaultTwins.NO);
        refused("sees(d), not SEEN", RefusedTest::watched, x -> x.sees(3), FaultTwins.NO);
        refused("sees(g), the FAULT not SEEN", RefusedTest::watched, x -> x.sees(6), FaultTwins.NO);
        refused("sees(a), it can not be by now", RefusedTest::watched, x -> x.sees(0), FaultTwins.NO);
        refused("sees(h), of no WAY", RefusedTest::watched, x -> x.sees(7), FaultTwins.NO);
        refused("sees(a) of a new one", FaultTwins::new, x -> x.sees(0), FaultTwins.NO);
        refused("would(d), not SEEN", RefusedTest::watched, x -> x.would(3), FaultTwins.NO);
        refused("would(g), not SEEN", RefusedTest::full, x -> x.would(6), FaultTwins.NO);
        refused("back() of a new one", FaultTwins::new, x -> x.back(), FaultTwins.NO);
        Maker spent = () -> {
            FaultTwins x = full();
            for (int i = 0; i < 6; i++) {
                x.back();
            }
            return x;
        };
        refused("back() behind six", spent, x -> x.back(), FaultTwins.NO);
    }

    private static void fulls() {
        refused("a 25th WAY", RefusedTest::full, x -> x.way(9, 7, 9), FaultTwins.FULL);
        refused("a 25th WAY beside one", RefusedTest::full, x -> x.way(0, 0, 0), FaultTwins.FULL);
        refused("a 121st byte", RefusedTest::full, x -> x.type(0), FaultTwins.FULL);
        refused("a 121st byte", RefusedTest::full, x -> x.type(127), FaultTwins.FULL);
        FaultTwins x = full();
        DUE.is("full: drop(0)", x.drop(0), 23);
        DUE.is("full no more: way", x.way(9, 7, 9), 23);
        DUE.is("full again: way", x.way(9, 7, 8), FaultTwins.FULL);
        DUE.is("full: clear()", x.clear(), 120);
        DUE.is("full no more: type", x.type('!'), 1);
        DUE.is("refused FULL", x.told(2), 1);
    }

    private static void theFirstOfThem() {
        refused("BAD ahead of NO and FULL: way", RefusedTest::full, x -> x.way(0, 8, 1), FaultTwins.BAD);
        refused("NO ahead of FULL: way", RefusedTest::full, x -> x.way(0, 0, 1), FaultTwins.NO);
        refused("BAD ahead of FULL: type", RefusedTest::full, x -> x.type(128), FaultTwins.BAD);
        refused("two wrong numbers count once: way", RefusedTest::full, x -> x.way(-1, 8, 10), FaultTwins.BAD);
        refused("two wrong numbers count once: deed", RefusedTest::full, x -> x.deed(-1, 2, 2), FaultTwins.BAD);
        refused("two wrong numbers count once: draw", RefusedTest::full, x -> x.draw(-1, 0), FaultTwins.BAD);
        refused("two wrong numbers count once: of", RefusedTest::full, x -> x.of(24, 4), FaultTwins.BAD);
        refused("two wrong numbers count once: pair", RefusedTest::full, x -> x.pair(20, 10), FaultTwins.BAD);
        refused("of(24, 2), of no WAY with a right what", RefusedTest::full, x -> x.of(24, 2), FaultTwins.BAD);
    }

    private static void answersThatAreNoRefusal() {
        FaultTwins x = Due.machine("!g;?gd;0g1;0a0;1a1;");
        DUE.is("would(b)", x.would(1), FaultTwins.NONE);
        DUE.is("sight(0)", x.sight(0), FaultTwins.NONE);
        DUE.is("apart(1)", x.apart(1), FaultTwins.NONE);
        DUE.is("soonest(0)", x.soonest(0), FaultTwins.NONE);
        DUE.is("fewest(0)", x.fewest(0), FaultTwins.NONE);
        DUE.is("fewest(1)", x.fewest(1), FaultTwins.NONE);
        DUE.is("reads()", x.reads(), -10);
        DUE.is("NONE and a FAULT of THE TEXT count not", x.told(0) + x.told(1) + x.told(2), 0);
    }

    /** How often is not held back by anything, and neither back nor anew nor clear takes it. */
    private static void howOften() {
        FaultTwins x = full();
        for (int i = 1; i <= 100; i++) {
            x.drop(24);
            x.way(0, 0, 1);
            x.type(32);
            if (i % 10 == 0) {
                DUE.is("BAD", x.told(0), i);
                DUE.is("NO", x.told(1), i);
                DUE.is("FULL", x.told(2), i);
            }
        }
        x.back();
        x.anew();
        x.clear();
        for (int what = 0; what <= 2; what++) {
            DUE.is("how often stays: told(" + what + ")", x.told(what), 100);
        }
    }
}
