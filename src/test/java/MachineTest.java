/** Promises 1 to 7: a new object and the machine. */
public final class MachineTest {
    private static final Due DUE = new Due("MachineTest");

    public static void main(String[] args) {
        aNewObject();
        ways();
        wrongWays();
        drops();
        deeds();
        draws();
        anews();
        parts();
        knownIsAsAtFirst();
        DUE.end();
    }

    private static void aNewObject() {
        FaultTwins x = new FaultTwins();
        int[] told = {0, 0, 0, 0, 0, 255, 0, 0};
        for (int what = 0; what < told.length; what++) {
            DUE.is("new: told(" + what + ")", x.told(what), told[what]);
        }
        int[] known = {1, 0, 1, 0, 0};
        for (int what = 0; what < known.length; what++) {
            DUE.is("new: known(" + what + ")", x.known(what), known[what]);
        }
        int[] all = {1, 1, 0, 0, 1, 0};
        for (int what = 0; what < all.length; what++) {
            DUE.is("new: all(" + what + ")", x.all(what), all[what]);
        }
        DUE.is("new: apart(0)", x.apart(0), 1);
        DUE.is("new: apart(1)", x.apart(1), 0);
        DUE.is("new: soonest(0)", x.soonest(0), FaultTwins.NONE);
        DUE.is("new: soonest(1)", x.soonest(1), FaultTwins.NONE);
        DUE.is("new: fewest(0)", x.fewest(0), 0);
        DUE.is("new: fewest(1)", x.fewest(1), 0);
        DUE.is("new: pair(0, 0)", x.pair(0, 0), 1);
        DUE.is("new: pair(10, 0)", x.pair(10, 0), 0);
        DUE.is("new: sight(0)", x.sight(0), FaultTwins.NONE);
        DUE.is("new: clear()", x.clear(), 0);
        DUE.is("new: reads()", x.reads(), -10);
        DUE.is("new: would(0)", x.would(0), FaultTwins.NONE);
        DUE.is("new: sees(0)", x.sees(0), FaultTwins.NO);
        DUE.is("new: back()", x.back(), FaultTwins.NO);
        DUE.is("new: of(0, 0)", x.of(0, 0), FaultTwins.BAD);
        DUE.is("new: drop(0)", x.drop(0), FaultTwins.BAD);
    }

    private static void ways() {
        FaultTwins x = new FaultTwins();
        for (int w = 0; w < 24; w++) {
            DUE.is("way " + w, x.way(w % 10, w % 8, 9 - w % 10), w);
            DUE.is("STATES behind it", x.told(7), Math.min(6, w + 1));
        }
        DUE.is("WAYS", x.told(4), 24);
        DUE.is("a 25th way", x.way(0, 7, 0), FaultTwins.FULL);
        DUE.is("a way that is there, of 24: NO is ahead of FULL", x.way(0, 0, 9), FaultTwins.NO);
        DUE.is("a wrong way, of 24: BAD is ahead of FULL", x.way(0, 8, 9), FaultTwins.BAD);
        DUE.is("WAYS yet", x.told(4), 24);
        DUE.is("STATES yet", x.told(7), 6);
        DUE.is("refused BAD", x.told(0), 1);
        DUE.is("refused NO", x.told(1), 1);
        DUE.is("refused FULL", x.told(2), 1);
    }

    private static void wrongWays() {
        FaultTwins x = new FaultTwins();
        int[][] wrong = {{-1, 0, 0}, {10, 0, 0}, {0, -1, 0}, {0, 8, 0}, {0, 0, -1}, {0, 0, 10},
            {Integer.MIN_VALUE, 0, 0}, {0, Integer.MAX_VALUE, 0}, {0, 0, Integer.MAX_VALUE}};
        for (int[] way : wrong) {
            DUE.is("way " + way[0] + ", " + way[1] + ", " + way[2], x.way(way[0], way[1], way[2]), FaultTwins.BAD);
        }
        DUE.is("refused BAD", x.told(0), wrong.length);
        DUE.is("no STATE of it", x.told(7), 0);
        DUE.is("way(9, 7, 9)", x.way(9, 7, 9), 0);
        DUE.is("way(9, 7, 9) again", x.way(9, 7, 9), FaultTwins.NO);
        DUE.is("way(9, 7, 8)", x.way(9, 7, 8), 1);
        DUE.is("way(9, 6, 9)", x.way(9, 6, 9), 2);
        DUE.is("way(8, 7, 9)", x.way(8, 7, 9), 3);
    }

    private static void drops() {
        FaultTwins x = Due.machine("0a1;1b2;2c3;3d4;");
        DUE.is("drop(4)", x.drop(4), FaultTwins.BAD);
        DUE.is("drop(-1)", x.drop(-1), FaultTwins.BAD);
        DUE.is("STATES", x.told(7), 1);
        DUE.is("drop(1)", x.drop(1), 3);
        DUE.is("STATES", x.told(7), 2);
        int[][] left = {{0, 0, 1}, {2, 2, 3}, {3, 3, 4}};
        for (int w = 0; w < left.length; w++) {
            for (int what = 0; what < 3; what++) {
                DUE.is("behind drop(1): of(" + w + ", " + what + ")", x.of(w, what), left[w][what]);
            }
        }
        DUE.is("drop(2), the last", x.drop(2), 2);
        DUE.is("drop(0), the first", x.drop(0), 1);
        DUE.is("of(0, 0)", x.of(0, 0), 2);
        DUE.is("drop(0)", x.drop(0), 0);
        DUE.is("drop(0) of none", x.drop(0), FaultTwins.BAD);
        DUE.is("the dropped one comes last", x.way(1, 1, 2), 0);
    }

    private static void deeds() {
        FaultTwins x = new FaultTwins();
        for (int d = 0; d < 8; d++) {
            DUE.is("deed not SEEN", x.deed(d, 0, 0), 1);
            DUE.is("deed not SEEN again", x.deed(d, 0, 0), 0);
            DUE.is("SEEN DEEDS", x.told(5), 255 & ~((2 << d) - 1));
            DUE.is("deed a FAULT", x.deed(d, 1, 1), 0);
            DUE.is("deed a FAULT again", x.deed(d, 1, 1), 1);
            DUE.is("FAULTS", x.told(6), (2 << d) - 1);
        }
        DUE.is("SEEN again", x.deed(3, 0, 1), 0);
        DUE.is("SEEN DEEDS", x.told(5), 8);
        DUE.is("no FAULT again", x.deed(7, 1, 0), 1);
        DUE.is("FAULTS", x.told(6), 127);
        int[][] wrong = {{-1, 0, 0}, {8, 0, 0}, {0, -1, 0}, {0, 2, 0}, {0, 0, -1}, {0, 0, 2}};
        for (int[] deed : wrong) {
            DUE.is("wrong deed", x.deed(deed[0], deed[1], deed[2]), FaultTwins.BAD);
        }
        DUE.is("refused BAD", x.told(0), wrong.length);
        DUE.is("SEEN DEEDS yet", x.told(5), 8);
        FaultTwins y = new FaultTwins();
        y.deed(0, 0, 1);
        DUE.is("a deed that changes nothing leaves a STATE", y.told(7), 1);
    }

    private static void draws() {
        FaultTwins x = Due.machine("!g;?gh;9a9;");
        DUE.is("draw(0, 1)", x.draw(0, 1), 1);
        // X is 12345: 12345 by 65536 is 0, by 1024 is 12 (4 of 8), by 32768 is 0.
        DUE.is("its FROM", x.of(0, 0), 0);
        DUE.is("its DEED", x.of(0, 1), 4);
        DUE.is("its TO", x.of(0, 2), 0);
        DUE.is("FAULTS stay", x.told(6), 64);
        DUE.is("SEEN DEEDS stay", x.told(5), 63);
        DUE.is("STATES", x.told(7), 2);
        for (int seed : new int[] {0, 1, 7, 4242, 65536, 999998, 999999}) {
            DUE.is("draw(" + seed + ", 24)", x.draw(seed, 24), drawn(x, seed, 24));
        }
        int states = x.told(7);
        int ways = x.told(4);
        int[][] wrong = {{-1, 3}, {1000000, 3}, {5, 0}, {5, 25}, {5, -1}, {Integer.MIN_VALUE, 3}};
        for (int[] draw : wrong) {
            DUE.is("draw(" + draw[0] + ", " + draw[1] + ")", x.draw(draw[0], draw[1]), FaultTwins.BAD);
        }
        DUE.is("refused BAD", x.told(0), wrong.length);
        DUE.is("STATES yet", x.told(7), states);
        DUE.is("WAYS yet", x.told(4), ways);
    }

    /** Compares the WAYS with those drawn here; how many there must be. */
    private static int drawn(FaultTwins x, int seed, int n) {
        java.util.Set<Integer> drawn = new java.util.LinkedHashSet<>();
        long left = seed;
        for (int i = 0; i < n; i++) {
            left = left * 1103515245L + 12345L & 0x7fffffffL;
            drawn.add((int) ((left >> 16) % 6 * 100 + (left >> 10) % 8 * 10 + (left >> 15) % 6));
        }
        int w = 0;
        for (int way : drawn) {
            DUE.is("drawn way " + w, x.of(w, 0) * 100 + x.of(w, 1) * 10 + x.of(w, 2), way);
            w++;
        }
        return drawn.size();
    }

    private static void anews() {
        FaultTwins x = Due.machine("!g;?gh;9a9;0a1;");
        DUE.is("anew()", x.anew(), 2);
        DUE.is("WAYS", x.told(4), 0);
        DUE.is("SEEN DEEDS", x.told(5), 255);
        DUE.is("FAULTS", x.told(6), 0);
        DUE.is("STATES", x.told(7), 2);
        DUE.is("KNOWN", x.known(0), 1);
        DUE.is("anew() again", x.anew(), 0);
        DUE.is("STATES", x.told(7), 3);
        x.back();
        DUE.is("back to what was", x.back(), 1);
        DUE.is("WAYS", x.told(4), 2);
    }

    private static void parts() {
        FaultTwins x = Due.machine("!g;?g;0g1;1a2;2b0;3c4;4c1;");
        int[] gone = {1, 1, 1, 0, 0};
        for (int w = 0; w < gone.length; w++) {
            DUE.is("of(" + w + ", 3)", x.of(w, 3), gone[w]);
        }
        DUE.is("of(3, 0)", x.of(3, 0), 3);
        DUE.is("of(3, 1)", x.of(3, 1), 2);
        DUE.is("of(3, 2)", x.of(3, 2), 4);
        DUE.is("of(5, 0)", x.of(5, 0), FaultTwins.BAD);
        DUE.is("of(-1, 0)", x.of(-1, 0), FaultTwins.BAD);
        DUE.is("of(0, 4)", x.of(0, 4), FaultTwins.BAD);
        DUE.is("of(0, -1)", x.of(0, -1), FaultTwins.BAD);
        DUE.is("refused BAD", x.told(0), 4);
        DUE.is("no STATE of it", x.told(7), 1);
        x.way(2, 7, 3);
        DUE.is("of(3, 3) with a way to its FROM", x.of(3, 3), 1);
    }

    private static FaultTwins watched() {
        FaultTwins x = Due.machine("0a1;1a2;2a3;");
        x.sees(0);
        x.sees(0);
        return x;
    }

    private static void isAsAtFirst(String call, FaultTwins x) {
        DUE.is(call + ": KNOWN", x.known(0), 1);
        DUE.is(call + ": sight(0)", x.sight(0), FaultTwins.NONE);
    }

    private static void knownIsAsAtFirst() {
        FaultTwins x = watched();
        x.way(5, 5, 5);
        isAsAtFirst("way", x);
        x = watched();
        x.drop(2);
        isAsAtFirst("drop", x);
        x = watched();
        x.deed(5, 0, 1);
        isAsAtFirst("deed", x);
        x = watched();
        x.draw(1, 1);
        isAsAtFirst("draw", x);
        x = watched();
        x.anew();
        isAsAtFirst("anew", x);
        x = watched();
        x.way(0, 0, 1);
        x.way(0, 0, 11);
        x.drop(3);
        x.deed(8, 0, 0);
        x.draw(-1, 1);
        DUE.is("refused: KNOWN", x.known(0), 4);
        DUE.is("refused: sight(0)", x.sight(0), 0);
        x.of(0, 0);
        x.digest();
        DUE.is("of only tells: KNOWN", x.known(0), 4);
    }
}
