import java.util.ArrayDeque;
import java.util.ArrayList;
import java.util.Deque;
import java.util.List;
import java.util.Random;

/** STATES: which calls leave one, what a STATE holds and what not, and that older ones than six are lost. */
public final class StatesTest {
    private static final Due DUE = new Due("StatesTest");

    private interface Call {
        long on(FaultTwins x);
    }

    private interface Maker {
        FaultTwins make();
    }

    public static void main(String[] args) {
        callsThatLeaveOne();
        callsThatLeaveNone();
        callsThatChangeNothing();
        sixAtMost();
        olderOnesAreLostWhole();
        theTwentyFourthWay();
        deedsOfAState();
        sightsOfAState();
        whatAStateHoldsNot();
        foundBehindBack();
        forwardAndBack();
        DUE.end();
    }

    private static FaultTwins watched() {
        FaultTwins x = Due.machine("!g;?gd;0g1;0a2;1a3;2a2;3b3;2d4;");
        x.sees(0);
        x.sees(1);
        Due.type(x, "5h6;");
        return x;
    }

    /** Six STATES: the oldest is lost by the next one. */
    private static FaultTwins sated() {
        FaultTwins x = watched();
        x.restarts();
        x.sees(0);
        x.sees(0);
        x.sees(0);
        return x;
    }

    private static List<Call> leavers() {
        List<Call> calls = new ArrayList<>();
        calls.add(x -> x.way(5, 5, 5));
        calls.add(x -> x.way(9, 7, 9));
        calls.add(x -> x.drop(0));
        calls.add(x -> x.drop(5));
        calls.add(x -> x.deed(0, 0, 0));
        calls.add(x -> x.deed(0, 1, 1));
        calls.add(x -> x.draw(7, 24));
        calls.add(x -> x.draw(0, 1));
        calls.add(x -> x.anew());
        calls.add(x -> x.sees(x.would(1) == FaultTwins.NONE ? 0 : 1));
        calls.add(x -> x.restarts());
        calls.add(x -> x.reads());
        return calls;
    }

    private static void callsThatLeaveOne() {
        List<Call> calls = leavers();
        for (int i = 0; i < calls.size(); i++) {
            goesBack("call " + i, StatesTest::watched, calls.get(i), 4);
            int left = sated().told(7);
            DUE.is("sated", left, 6);
            FaultTwins x = sated();
            DUE.holds("call " + i + " is done", calls.get(i).on(x) >= 0);
            DUE.is("call " + i + ": STATES are six yet", x.told(7), 6);
            DUE.is("call " + i + ": back()", x.back(), 5);
        }
    }

    /** Behind the call and back all is as in an object for which neither was made. */
    private static void goesBack(String name, Maker maker, Call call, int states) {
        FaultTwins x = maker.make();
        FaultTwins untouched = maker.make();
        DUE.holds(name + " is done", call.on(x) >= 0);
        DUE.is(name + ": STATES", x.told(7), states);
        DUE.is(name + ": back()", x.back(), states - 1);
        Alike.look(DUE, name + " and back", x, untouched);
    }

    private static void callsThatLeaveNone() {
        List<Call> calls = List.of(x -> x.of(0, 0), x -> x.of(0, 3), x -> x.known(0), x -> x.known(4), x -> x.would(1),
            x -> x.would(0), x -> x.sight(0), x -> x.all(0), x -> x.all(1), x -> x.all(5), x -> x.apart(0),
            x -> x.apart(1), x -> x.soonest(0), x -> x.enough(0), x -> x.enough(8), x -> x.fewest(0),
            x -> x.pair(11, 0), x -> x.told(7), x -> x.digest());
        for (int i = 0; i < calls.size(); i++) {
            FaultTwins x = watched();
            calls.get(i).on(x);
            Alike.look(DUE, "asking call " + i, x, watched());
        }
        FaultTwins x = watched();
        x.type('!');
        DUE.is("type leaves no STATE", x.told(7), 3);
        x.clear();
        DUE.is("clear leaves no STATE", x.told(7), 3);
        DUE.is("back leaves no STATE", x.back(), 2);
        DUE.is("STATES", x.told(7), 2);
    }

    private static void callsThatChangeNothing() {
        FaultTwins x = new FaultTwins();
        DUE.is("anew() of a new one", x.anew(), 0);
        DUE.is("STATES", x.told(7), 1);
        DUE.is("restarts() at first", x.restarts(), 0);
        DUE.is("STATES", x.told(7), 2);
        DUE.is("deed as it is, SEEN", x.deed(0, 0, 1), 1);
        DUE.is("STATES", x.told(7), 3);
        DUE.is("deed as it is, no FAULT", x.deed(0, 1, 0), 0);
        DUE.is("STATES", x.told(7), 4);
        DUE.is("reads() of what is so", Due.reads(x, "!;?;"), 2);
        DUE.is("STATES", x.told(7), 5);
        FaultTwins y = new FaultTwins();
        y.draw(7, 1);
        DUE.is("draw again", y.draw(7, 1), 1);
        DUE.is("STATES", y.told(7), 2);
        y = Due.machine("0a0;");
        y.sees(0);
        DUE.is("sees to the same KNOWN", y.sees(0), 0);
        DUE.is("STATES", y.told(7), 3);
        DUE.is("KNOWN is the same, what was seen is not", y.sight(1), 0);
        y.back();
        DUE.is("back: sight(1)", y.sight(1), FaultTwins.NONE);
    }

    private static void sixAtMost() {
        FaultTwins x = new FaultTwins();
        for (int i = 1; i <= 15; i++) {
            x.way(0, 0, i % 10);
            x.drop(0);
            DUE.is("STATES behind " + 2 * i, x.told(7), Math.min(6, 2 * i));
        }
        for (int left = 5; left >= 0; left--) {
            DUE.is("back()", x.back(), left);
            DUE.is("STATES", x.told(7), left);
        }
        DUE.is("back() of none", x.back(), FaultTwins.NO);
        DUE.is("back() of none again", x.back(), FaultTwins.NO);
        DUE.is("refused NO", x.told(1), 2);
        DUE.is("STATES", x.told(7), 0);
    }

    /** Exactly six: all of them. Seven: the first is lost, the other six are whole. */
    private static void olderOnesAreLostWhole() {
        for (int calls = 5; calls <= 14; calls++) {
            FaultTwins x = new FaultTwins();
            for (int i = 0; i < calls; i++) {
                x.way(i % 10, i % 8, 9 - i % 10);
            }
            int least = Math.max(0, calls - 6);
            for (int ways = calls - 1; ways >= least; ways--) {
                DUE.is(calls + " calls: back()", x.back(), ways - least);
                DUE.is(calls + " calls: WAYS", x.told(4), ways);
                if (ways > 0) {
                    DUE.is(calls + " calls: the last WAY", x.of(ways - 1, 0), (ways - 1) % 10);
                }
            }
            DUE.is(calls + " calls: back() of none", x.back(), FaultTwins.NO);
            DUE.is(calls + " calls: WAYS stay", x.told(4), least);
        }
    }

    private static void theTwentyFourthWay() {
        FaultTwins x = new FaultTwins();
        for (int w = 0; w < 23; w++) {
            x.way(w % 10, w % 8, 0);
        }
        x.way(9, 7, 9);
        x.draw(1, 24);
        DUE.is("back()", x.back(), 5);
        DUE.is("WAYS", x.told(4), 24);
        DUE.is("of(23, 0)", x.of(23, 0), 9);
        DUE.is("of(23, 1)", x.of(23, 1), 7);
        DUE.is("of(23, 2)", x.of(23, 2), 9);
        DUE.is("it is there", x.way(9, 7, 9), FaultTwins.NO);
        DUE.is("reads() with 24", Due.reads(x, "!b;"), 1);
        DUE.is("of(23, 0)", x.of(23, 0), 9);
        DUE.is("of(23, 1)", x.of(23, 1), 7);
        DUE.is("of(23, 2)", x.of(23, 2), 9);
        x.drop(0);
        DUE.is("of(22, 1)", x.of(22, 1), 7);
        DUE.is("back() behind drop", x.back(), 6 - 1);
        DUE.is("of(23, 1)", x.of(23, 1), 7);
        DUE.is("of(0, 1)", x.of(0, 1), 0);
    }

    private static void deedsOfAState() {
        FaultTwins x = Due.machine("!abc;?cde;0a1;");
        x.anew();
        DUE.is("anew: SEEN DEEDS", x.told(5), 255);
        x.back();
        DUE.is("back: SEEN DEEDS", x.told(5), 255 & ~28);
        DUE.is("back: FAULTS", x.told(6), 7);
        x.deed(7, 0, 0);
        x.deed(7, 1, 1);
        x.back();
        DUE.is("back: FAULTS", x.told(6), 7);
        DUE.is("back: h is not SEEN yet", x.told(5), 255 & ~(28 | 128));
        x.back();
        DUE.is("back: SEEN DEEDS", x.told(5), 255 & ~28);
    }

    /** Sights that were pushed out by later ones, or lost with KNOWN, come back. */
    private static void sightsOfAState() {
        FaultTwins x = Due.machine("0a0;0b0;0c0;0d0;0e0;0f0;0g0;0h0;");
        for (int d = 0; d < 8; d++) {
            x.sees(d);
        }
        DUE.is("sight(7)", x.sight(7), 0);
        x.sees(5);
        DUE.is("pushed out", x.sight(7), 1);
        x.back();
        DUE.is("back: sight(7)", x.sight(7), 0);
        DUE.is("back: sight(0)", x.sight(0), 7);
        DUE.is("back: sight(8)", x.sight(8), FaultTwins.NONE);
        List<Call> calls = List.of(y -> y.way(5, 5, 5), y -> y.drop(0), y -> y.deed(0, 1, 1), y -> y.draw(1, 1),
            y -> y.anew(), y -> y.restarts(), y -> Due.reads(y, "!;"));
        for (Call call : calls) {
            call.on(x);
            DUE.is("as at first: sight(0)", x.sight(0), FaultTwins.NONE);
            x.back();
            for (int k = 0; k < 8; k++) {
                DUE.is("back: sight(" + k + ")", x.sight(k), 7 - k);
            }
        }
    }

    private static void whatAStateHoldsNot() {
        FaultTwins x = new FaultTwins();
        x.way(0, 0, 1);
        Due.type(x, "5h6;");
        x.way(0, 0, 1);
        x.way(0, 0, 10);
        x.back();
        DUE.is("THE TEXT stays", x.told(3), 4);
        DUE.is("BAD stays", x.told(0), 1);
        DUE.is("NO stays", x.told(1), 1);
        DUE.is("THE TEXT can be read", x.reads(), 1);
        x.clear();
        x.back();
        DUE.is("back behind clear: no THE TEXT", x.told(3), 0);
    }

    /** What was found out of a machine holds again, when the machine is taken back. */
    private static void foundBehindBack() {
        FaultTwins x = Due.machine("!g;?gd;0g1;1d1;0a0;1a2;");
        int sets = x.all(1);
        int pairs = x.all(4);
        int apart = x.apart(0);
        int eyes = x.fewest(0);
        int known = x.known(0);
        x.anew();
        DUE.is("anew: all(1)", x.all(1), 1);
        DUE.is("anew: all(4)", x.all(4), 1);
        DUE.is("anew: apart(0)", x.apart(0), 1);
        DUE.is("anew: fewest(0)", x.fewest(0), 0);
        x.back();
        DUE.is("back: all(1)", x.all(1), sets);
        DUE.is("back: all(4)", x.all(4), pairs);
        DUE.is("back: apart(0)", x.apart(0), apart);
        DUE.is("back: fewest(0)", x.fewest(0), eyes);
        DUE.is("back: known(0)", x.known(0), known);
        DUE.is("back: would(a)", x.would(0), 2);
    }

    /** Ways and backs at random beside a list of six: what was taken back is not there again. */
    private static void forwardAndBack() {
        Random random = new Random(24);
        for (int run = 0; run < 20; run++) {
            FaultTwins x = new FaultTwins();
            Deque<Integer> states = new ArrayDeque<>();
            int seen = 255;
            for (int i = 0; i < 120; i++) {
                int d = random.nextInt(8);
                if (random.nextInt(5) < 2) {
                    DUE.is("run " + run + ": back()", x.back(), states.isEmpty() ? FaultTwins.NO : states.size() - 1);
                    seen = states.isEmpty() ? seen : states.removeLast();
                } else {
                    states.addLast(seen);
                    if (states.size() > 6) {
                        states.removeFirst();
                    }
                    DUE.is("run " + run + ": deed", x.deed(d, 0, 1 - (seen >> d & 1)), seen >> d & 1);
                    seen ^= 1 << d;
                }
                DUE.is("run " + run + ": SEEN DEEDS", x.told(5), seen);
                DUE.is("run " + run + ": STATES", x.told(7), states.size());
            }
        }
    }
}
