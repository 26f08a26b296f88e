/** The terms at their edges: PLACES, DEEDS, MARKS, KNOWN, VERDICT, sets of KNOWN, TWINS, RING, DELAY, EYES. */
public final class TermsTest {
    private static final Due DUE = new Due("TermsTest");
    private static final int G = 6;
    /** The second one tells which of the last nine sights were a: 512 sets of KNOWN, and more with a FAULT. */
    private static final String CHAIN = "0a0;0b0;0a1;1a2;1b2;2a3;2b3;3a4;3b4;4a5;4b5;5a6;5b6;6a7;6b7;7a8;7b8;8a9;8b9;";
    /** With the FAULT the first one stays at 1 .. 5 by a, goes on by b; without it 0 6 7 8 9 go round by aaaab. */
    private static final String COUNTER = "!g;?g;5a5;4b5;4a4;3b4;3a3;2b3;2a2;1b2;1a1;9b0;8a9;7a8;6a7;0a6;0g1;";

    public static void main(String[] args) {
        everyPlace();
        everyDeed();
        everyMark();
        aFaultStays();
        longWaysUnseen();
        roundsUnseen();
        sightsThatCanNotBe();
        verdicts();
        whatCanHappenUnseen();
        fiveHundredSets();
        soonestOfFiveHundred();
        lastEightSights();
        waysThatCanBeGone();
        twinsAtFirst();
        stepsOfTwins();
        rings();
        delays();
        longDelayAndLongRing();
        farMachines();
        twinsOfAnotherMachine();
        eyesAtTheEdges();
        fewestOfLikeOnes();
        drawsAtTheEdges();
        DUE.end();
    }

    private static void everyPlace() {
        for (int place = 0; place <= 9; place++) {
            FaultTwins x = new FaultTwins();
            x.way(0, 0, place);
            x.way(place, 1, 9 - place);
            x.sees(0);
            DUE.is("KNOWN behind a", x.known(0), 1 << place);
            x.sees(1);
            DUE.is("KNOWN behind b", x.known(0), 1 << 9 - place);
            DUE.is("all(0)", x.all(0), 1 | 1 << place | 1 << 9 - place);
        }
    }

    private static void everyDeed() {
        for (int d = 0; d < 8; d++) {
            FaultTwins x = new FaultTwins();
            x.way(0, d, 1);
            DUE.is("SEEN at first", x.known(3), 1 << d);
            DUE.is("no FAULT at first", x.would(d), 0);
            DUE.is("a FAULT", x.deed(d, 1, 1), 0);
            DUE.is("a FAULT may be SEEN", x.would(d), 1);
            DUE.is("not SEEN", x.deed(d, 0, 0), 1);
            DUE.is("not SEEN: KNOWN", x.known(0), 1 | 1 << 11);
            DUE.is("not SEEN: VERDICT", x.known(1), 2);
            DUE.is("not SEEN: would", x.would(d), FaultTwins.NO);
            DUE.is("what it was", x.deed(d, 1, 0), 1);
            DUE.is("no FAULT again: KNOWN", x.known(0), 3);
        }
    }

    /** MARK 10 is PLACE 0 with a FAULT, MARK 19 is PLACE 9 with one. */
    private static void everyMark() {
        for (int place = 0; place <= 9; place++) {
            FaultTwins x = new FaultTwins();
            x.deed(G, 1, 1);
            x.way(0, G, place);
            x.way(place, 0, place);
            x.way(0, 0, 0);
            DUE.is("sees(g)", x.sees(G), 1);
            DUE.is("KNOWN", x.known(0), 1 << place + 10);
            DUE.is("a sight from this MARK alone", x.would(0), 1);
            DUE.is("sees(a)", x.sees(0), 1);
            DUE.is("KNOWN behind a", x.known(0), 1 << place + 10);
            DUE.is("all(0)", x.all(0), place == 0 ? 1 | 1 << 10 : 1 | 1 << place + 10);
            x.deed(G, 0, 0);
            DUE.is("not SEEN: KNOWN", x.known(0), 1 | 1 << place + 10);
            DUE.is("DOUBTFUL pairs", x.all(5), 1);
            DUE.is("pairs", x.all(4), 2);
            DUE.is("pair(" + (place + 10) + ", 0)", x.pair(place + 10, 0), 2);
            DUE.is("pair(0, 0)", x.pair(0, 0), 1);
            DUE.is("apart(0)", x.apart(0), 0);
        }
        FaultTwins x = Due.machine("!g;0a1;1a2;2a3;3a4;4a5;5a6;6a7;7a8;8a9;0g0;");
        DUE.is("all MARKS", x.all(0), (1 << 20) - 1);
        Due.reads(x, "?ag;");
        DUE.is("all MARKS KNOWN", x.known(0), (1 << 20) - 1);
        DUE.is("how many", x.known(2), 20);
        DUE.is("all pairs", x.all(4), 200);
        DUE.is("all DOUBTFUL pairs", x.all(5), 100);
        DUE.is("pair(19, 9), of no RING", x.pair(19, 9), 1);
        DUE.is("pair(10, 9), of a RING by g", x.pair(10, 9), 2);
    }

    private static void aFaultStays() {
        FaultTwins x = Due.machine("!g;0g0;0a0;0a1;1a0;");
        DUE.is("no FAULT yet", x.sees(0), 0);
        DUE.is("sees(g)", x.sees(G), 1);
        DUE.is("KNOWN", x.known(0), 1 << 10);
        DUE.is("a, no FAULT, stays SURE", x.sees(0), 1);
        DUE.is("KNOWN", x.known(0), 3 << 10);
        DUE.is("a second FAULT", x.sees(G), 1);
        DUE.is("KNOWN", x.known(0), 1 << 10);
        DUE.is("restarts()", x.restarts(), 0);
    }

    /** A chain of DEEDS not SEEN, its WAYS told from the end and from the beginning. */
    private static void longWaysUnseen() {
        FaultTwins falling = new FaultTwins();
        FaultTwins rising = new FaultTwins();
        for (int p = 0; p < 9; p++) {
            rising.way(p, p == 4 ? G : 0, p + 1);
            falling.way(8 - p, 8 - p == 4 ? G : 0, 9 - p);
        }
        for (FaultTwins x : new FaultTwins[] {falling, rising}) {
            x.way(9, 0, 0);
            x.deed(G, 1, 1);
            x.deed(G, 0, 0);
            x.deed(0, 0, 0);
            DUE.is("all of the chain, then all again with the FAULT", x.known(0), 31 | 1023 << 10);
            DUE.is("how many", x.known(2), 15);
            DUE.is("all(0)", x.all(0), 31 | 1023 << 10);
            DUE.is("pairs: the second one stays below 5", x.all(4), 15 * 5);
            DUE.is("DOUBTFUL", x.all(5), 10 * 5);
            DUE.is("apart(0)", x.apart(0), 0);
            DUE.is("all(1)", x.all(1), 1);
        }
    }

    private static void roundsUnseen() {
        FaultTwins x = Due.machine("?d;0d1;1d2;2d0;2a3;3d3;");
        DUE.is("KNOWN at first", x.known(0), 7);
        DUE.is("sees(a)", x.sees(0), 0);
        DUE.is("KNOWN", x.known(0), 8);
        DUE.is("a WAY to itself", x.known(4), 1);
        DUE.is("nothing more", x.known(3), 0);
    }

    private static void sightsThatCanNotBe() {
        FaultTwins x = Due.machine("0a1;1b2;");
        for (int d = 1; d < 8; d++) {
            DUE.is("would(" + d + ")", x.would(d), FaultTwins.NONE);
            DUE.is("sees(" + d + ")", x.sees(d), FaultTwins.NO);
            DUE.is("KNOWN stays", x.known(0), 1);
        }
        x.sees(0);
        DUE.is("sees(a) again", x.sees(0), FaultTwins.NO);
        DUE.is("KNOWN stays", x.known(0), 2);
        DUE.is("no sight of it", x.sight(1), FaultTwins.NONE);
        x.sees(1);
        DUE.is("at the end", x.known(3), 0);
        DUE.is("refused NO", x.told(1), 8);
    }

    private static void verdicts() {
        FaultTwins x = Due.machine("!g;?g;0a0;0g1;0b2;1b3;1c3;");
        DUE.is("MAYBE: MARK 0 and MARK 11", x.restarts(), 2);
        DUE.is("would(a): MAYBE again", x.would(0), 2);
        DUE.is("would(b): MAYBE", x.would(1), 2);
        DUE.is("would(c): SURE", x.would(2), 1);
        DUE.is("sees(c)", x.sees(2), 1);
        DUE.is("known(1)", x.known(1), 1);
        x.deed(G, 1, 0);
        DUE.is("without a FAULT none", x.known(1), 0);
        DUE.is("would(c): none", x.would(2), 0);
        // MARK 9 is the last without a FAULT, MARK 10 the first with one.
        x = Due.machine("!g;?g;0a9;9g0;");
        DUE.is("sees(a)", x.sees(0), 2);
        DUE.is("KNOWN", x.known(0), 1 << 9 | 1 << 10);
        x = Due.machine("!g;0a9;0g0;");
        DUE.is("MARK 9 alone", x.would(0), 0);
        DUE.is("MARK 10 alone", x.would(G), 1);
    }

    private static void whatCanHappenUnseen() {
        FaultTwins x = Due.machine("?d;0a9;9d9;9b8;8a8;");
        DUE.is("not at 0", x.known(4), 0);
        x.sees(0);
        DUE.is("at 9", x.known(4), 1);
        x.sees(1);
        DUE.is("not at 8", x.known(4), 0);
        x = Due.machine("!g;?d;0g9;9d9;");
        x.sees(G);
        DUE.is("at MARK 19", x.known(4), 1);
        // WAYS that are gone, and as many as may be, none of them unseen.
        x = Due.machine("?d;0a0;0d1;");
        DUE.is("by the last WAY", x.known(4), 1);
        x.drop(1);
        DUE.is("the last WAY is gone", x.known(4), 0);
        DUE.is("it is not KNOWN", x.known(0), 1);
        x = new FaultTwins();
        for (int w = 0; w < 24; w++) {
            x.way(w % 3, w / 3, 0);
        }
        DUE.is("24 WAYS, all SEEN", x.known(4), 0);
        x.deed(7, 0, 0);
        DUE.is("the last ones not SEEN", x.known(4), 1);
    }

    private static void sets(String more, int sets, int maybe, int sure) {
        FaultTwins x = Due.machine(CHAIN);
        Due.reads(x, more);
        DUE.is(more + " all(1)", x.all(1), sets);
        DUE.is(more + " all(2)", x.all(2), maybe);
        DUE.is(more + " all(3)", x.all(3), sure);
    }

    /** What is due here was found by another program, without a limit, and counted up to 500. */
    private static void fiveHundredSets() {
        sets("!g;3b0;7c6;4b4;4d5;7g2;", 499, 0, 246);
        // The 500th set is SURE, and counts.
        sets("!g;6a5;7a1;9g2;", 500, 0, 164);
        sets("!g;7c7;5c2;8a3;8c4;9g8;", 500, 0, 9);
        // 512 sets, each with 9 is MAYBE: the 501st to 512th count not.
        sets("!g;?g;9g9;", 500, 244, 0);
        sets("!g;?g;8g8;", 500, 372, 0);
        // By DEEDS that rise; falling they would be 244.
        sets("!g;?g;7g9;", 500, 256, 0);
        // One SURE set, the 513th.
        sets("!g;9g9;", 500, 0, 0);
        FaultTwins x = Due.machine(CHAIN);
        DUE.is("512 sets", x.all(1), 500);
        x.drop(18);
        x.drop(17);
        DUE.is("256 sets", x.all(1), 256);
        x.anew();
        DUE.is("one set", x.all(1), 1);
        x.back();
        x.back();
        x.back();
        DUE.is("512 sets again", x.all(1), 500);
        DUE.is("KNOWN may be one of those that count not", walkedFar(x), 1022 | 1);
    }

    /** KNOWN behind nine sights of a. */
    private static int walkedFar(FaultTwins x) {
        for (int i = 0; i < 9; i++) {
            x.sees(0);
        }
        return x.known(0);
    }

    private static void soonest(String more, int sure, int maybe) {
        FaultTwins x = Due.machine(CHAIN);
        Due.reads(x, more);
        DUE.is(more + " soonest(0)", x.soonest(0), sure);
        DUE.is(more + " soonest(1)", x.soonest(1), maybe);
    }

    private static void soonestOfFiveHundred() {
        soonest("!g;6a5;7a1;9g2;", 10, FaultTwins.NONE);
        soonest("!g;3b0;7c6;4b4;4d5;7g2;", 8, FaultTwins.NONE);
        soonest("!g;?g;9g9;", FaultTwins.NONE, 9);
        // The only SURE set is behind 500: it counts not, though it can be seen.
        soonest("!g;9g9;", FaultTwins.NONE, FaultTwins.NONE);
        FaultTwins x = Due.machine(CHAIN);
        Due.reads(x, "!g;9g9;");
        walkedFar(x);
        DUE.is("it can be seen", x.sees(G), 1);
        DUE.is("MAYBE with no sight", Due.machine("!g;?g;0g0;").soonest(1), 0);
        DUE.is("SURE with one sight", Due.machine("!g;0g0;").soonest(0), 1);
    }

    private static void lastEightSights() {
        FaultTwins x = Due.machine("0a0;0b0;0c0;0d0;0e0;0f0;0g0;0h0;");
        for (int i = 0; i < 20; i++) {
            x.sees(i * 3 % 8);
            DUE.is("sight(0)", x.sight(0), i * 3 % 8);
            DUE.is("sight(7)", x.sight(7), i >= 7 ? (i - 7) * 3 % 8 : FaultTwins.NONE);
            DUE.is("sight(8)", x.sight(8), FaultTwins.NONE);
            DUE.is("as many as there are", x.sight(i), i < 8 ? 0 : FaultTwins.NONE);
            DUE.is("one more", x.sight(i + 1), FaultTwins.NONE);
        }
        x.restarts();
        DUE.is("as at first", x.sight(0), FaultTwins.NONE);
        x.sees(5);
        DUE.is("the one since then", x.sight(0), 5);
        DUE.is("none before", x.sight(1), FaultTwins.NONE);
        DUE.is("would is no sight", x.would(1), 0);
        DUE.is("the one since then", x.sight(0), 5);
        DUE.is("refused", x.sees(-1), FaultTwins.BAD);
        DUE.is("the one since then", x.sight(0), 5);
    }

    private static void waysThatCanBeGone() {
        FaultTwins x = Due.machine("!g;?h;0g5;5h9;9a9;4a0;7b7;");
        int[] gone = {1, 1, 1, 0, 0};
        for (int w = 0; w < gone.length; w++) {
            DUE.is("of(" + w + ", 3)", x.of(w, 3), gone[w]);
        }
        x.sees(G);
        DUE.is("ever, not from KNOWN", x.of(0, 3), 1);
        x.drop(0);
        DUE.is("of(0, 3) without the WAY to it", x.of(0, 3), 0);
        DUE.is("of(1, 3)", x.of(1, 3), 0);
    }

    private static void twinsAtFirst() {
        FaultTwins x = new FaultTwins();
        for (int mark = 0; mark <= 19; mark++) {
            for (int place = 0; place <= 9; place++) {
                DUE.is("new: pair(" + mark + ", " + place + ")", x.pair(mark, place), mark + place == 0 ? 1 : 0);
            }
        }
    }

    private static void pairs(String machine, int... pairs) {
        FaultTwins x = Due.machine(machine);
        int doubtful = 0;
        for (int pair : pairs) {
            DUE.holds(machine + " pair " + pair, x.pair(pair / 10, pair % 10) >= 1);
            doubtful += pair >= 100 ? 1 : 0;
        }
        DUE.is(machine + " all(4)", x.all(4), pairs.length);
        DUE.is(machine + " all(5)", x.all(5), doubtful);
    }

    /** A pair is 10 times the MARK and the PLACE. */
    private static void stepsOfTwins() {
        pairs("?d;0d1;", 0, 10, 1, 11);
        pairs("0a1;0b2;", 0, 11, 22);
        pairs("0a1;0a2;", 0, 11, 12, 21, 22);
        // A FAULT not SEEN is of the first one alone.
        pairs("!g;?g;0g1;", 0, 110);
        pairs("!g;?g;0g9;9g0;", 0, 190, 100);
        // A FAULT that is SEEN is of neither: the second one does none.
        pairs("!g;0g1;0g0;", 0);
        pairs("!gh;?g;0g1;1h2;0h3;", 0, 110);
        // Of the same DEED both go, each its own WAY.
        pairs("!g;?g;0g1;0a2;1a3;", 0, 110, 22, 132);
        pairs("!g;?g;0g1;0b2;1a3;", 0, 110, 22);
        // The second one alone, behind the FAULT, too.
        pairs("!g;?gd;0g1;0d5;", 0, 5, 50, 55, 110, 115);
    }

    private static void ring(String machine, int... pairs) {
        FaultTwins x = Due.machine(machine);
        int rings = 0;
        for (int mark = 0; mark <= 19; mark++) {
            for (int place = 0; place <= 9; place++) {
                rings += x.pair(mark, place) == 2 ? 1 : 0;
            }
        }
        DUE.is(machine + " pairs of a RING", rings, pairs.length);
        for (int pair : pairs) {
            DUE.is(machine + " pair " + pair, x.pair(pair / 10, pair % 10), 2);
        }
        DUE.is(machine + " apart(0)", x.apart(0), pairs.length == 0 ? 1 : 0);
        DUE.holds(machine + " apart(1)", x.apart(1) == FaultTwins.NONE == (pairs.length > 0));
    }

    private static void rings() {
        ring("!g;?g;0g0;", 100);
        ring("!g;?g;0g9;9g9;", 190);
        ring("!g;?g;0g9;9g0;", 190, 100);
        ring("!g;?g;0g9;0a9;9a9;", 199);
        ring("!g;?g;0g1;1a2;2a1;0a0;", 110, 120);
        ring("!g;?g;0g1;1a2;2a3;3a1;0a4;4a0;", 110, 124, 130, 114, 120, 134);
        // Two RINGS, a WAY between them that is of none, and the way in and out.
        ring("!g;?g;0g1;0a0;1a2;2a2;2a3;3a4;4a4;4a5;", 120, 140);
        // The second one's steps alone are of the RING, if a WAY of the MARK is, too.
        ring("!g;?gd;0g1;0d2;2d0;1a1;0a0;", 110, 112);
        ring("!g;?gd;0g1;0d2;1a1;2a0;", 110, 112);
        // The second one comes by d to 2, and not back: 110 is of none.
        ring("!g;?gd;0g1;0d2;1a1;2a2;", 112);
        // The first one's WAYS not SEEN alone.
        ring("!g;?gd;0g1;1d2;2d3;3d1;", 110, 120, 130);
        // None: by the second one alone, without a FAULT, that can not be, that ends.
        ring("!g;?gd;0g1;0d2;2d0;");
        ring("0a0;");
        ring("!g;?g;0a0;5g5;5a5;");
        ring("!g;?g;0g1;1a1;0a2;");
        ring("!g;?g;0g1;1a1;0b0;");
        ring("!g;0g0;0a0;");
        ring("!gh;?g;0g1;1h1;0h0;");
    }

    private static void delay(String machine, int delay) {
        FaultTwins x = Due.machine(machine);
        DUE.is(machine + " apart(1)", x.apart(1), delay);
        DUE.is(machine + " apart(0)", x.apart(0), delay == FaultTwins.NONE ? 0 : 1);
    }

    private static void delays() {
        // None DOUBTFUL; DOUBTFUL, but none takes a WAY.
        delay("!;", 0);
        delay("!g;0g1;1a1;", 0);
        delay("!g;?g;0g1;", 0);
        delay("!g;?gd;0g1;0d0;", 0);
        // The WAY by which the FAULT happens is not of a DOUBTFUL pair.
        delay("!g;?g;0g1;1g2;", 1);
        delay("!g;?g;0g9;9g8;8g7;", 2);
        // The longest one, not the first; steps of the second one between them count not.
        delay("!g;?gd;0g1;1d2;1a3;0a0;3a4;4a5;", 3);
        delay("!g;?gd;0g1;0d2;2a3;3d4;4a5;1a6;6a7;", 2);
        // From a pair that can be only behind sights.
        delay("!g;?g;0a5;5g6;6a7;7a8;5a5;", 2);
        // MARK 10 is DOUBTFUL, too.
        delay("!g;?g;0a1;1g0;1b2;0b3;", 1);
        delay("!g;?g;0g9;9a8;8a7;7a6;6a5;5a4;4a3;3a2;2a1;0a0;", 8);
        delay("!g;?g;0g9;9a8;8a7;7a6;6a5;5a4;4a3;3a2;2a1;1a9;0a0;", FaultTwins.NONE);
    }

    private static void longDelayAndLongRing() {
        // Of each of 1 .. 5 four times a, and four times b between them.
        delay(COUNTER, 24);
        FaultTwins x = Due.machine(COUNTER);
        DUE.is("pairs", x.all(4), 30);
        DUE.is("DOUBTFUL", x.all(5), 25);
        DUE.is("the last one", x.pair(15, 9), 1);
        x.way(5, 1, 1);
        DUE.is("round again: apart(0)", x.apart(0), 0);
        DUE.is("round again: apart(1)", x.apart(1), FaultTwins.NONE);
        for (int mark = 11; mark <= 15; mark++) {
            for (int place : new int[] {0, 6, 7, 8, 9}) {
                DUE.is("of the long RING", x.pair(mark, place), 2);
            }
        }
    }

    private static void far(String machine, int pairs, int doubtful, int rings, int delay) {
        FaultTwins x = Due.machine(machine);
        DUE.is(machine + " all(4)", x.all(4), pairs);
        DUE.is(machine + " all(5)", x.all(5), doubtful);
        DUE.is(machine + " apart(1)", x.apart(1), delay);
        int found = 0;
        for (int i = 100; i < 200; i++) {
            found += x.pair(i / 10, i % 10) == 2 ? 1 : 0;
        }
        DUE.is(machine + " pairs of a RING", found, rings);
    }

    /**
     * Machines whose pairs lie far behind one another: searched for, and what is due found by another
     * program. The first needs 89 rounds through its WAYS until no pair is new.
     */
    private static void farMachines() {
        far("!g;?g;3a1;4c4;0c2;5b4;3b5;3c3;6b3;6c6;0b6;8c0;2c8;7b2;1g2;7c2;7c7;1c1;9b7;9c9;7a4;4b9;1a5;",
            151, 77, 75, FaultTwins.NONE);
        far("!g;?g;2a0;7a9;2a4;2b3;2g4;4b4;3a7;4a3;2b0;6a4;2a8;2b9;2a3;0b0;8a6;1a8;0a1;5a0;2b7;9g5;8b8;9a5;",
            90, 81, 81, FaultTwins.NONE);
        far("!g;?g;2g4;9a0;5c1;2c4;8d3;6a1;3d6;3a3;5a2;8b0;0a7;4c7;7a8;8b2;1a5;2d7;4a9;7c3;0b1;9c0;8c6;9c8;9b7;7b6;",
            131, 79, 0, 68);
        String far = "!g;?g;0g1;3c5;8d6;0d2;6d5;9c2;2d1;0c0;5c8;8b3;3d3;5d9;7c3;1d7;4b9;4d4;7a4;6a0;7d8;9b0;0b6;0a5;0a2;";
        far(far, 98, 84, 0, 65);
        far(far + "9d0;", 196, 98, 98, FaultTwins.NONE);
        far("!g;?g;0g3;6c5;5d7;5b5;3d2;9a3;3c3;2c1;8b4;5b7;4c2;0c9;1c8;0d0;5a8;1a7;7d1;4a9;2b0;9b9;7c4;6d1;8c6;9a2;",
            155, 75, 0, 61);
    }

    /** Steps of the machine before, or of other EYES, are no steps of this one. */
    private static void twinsOfAnotherMachine() {
        FaultTwins x = Due.machine("!g;?gd;0g1;1a1;1d1;0d0;0a0;");
        DUE.is("both by a: apart(0)", x.apart(0), 0);
        DUE.is("d SEEN: enough(8)", x.enough(8), 0);
        x.drop(4);
        x.drop(2);
        DUE.is("a of the first one alone: apart(0)", x.apart(0), 1);
        DUE.is("a of the first one alone: pair(11, 0)", x.pair(11, 0), 1);
        DUE.is("d SEEN: enough(8)", x.enough(8), 1);
        x.way(1, 3, 1);
        DUE.is("d of the first one: enough(8)", x.enough(8), 0);
        DUE.is("d not SEEN: enough(0)", x.enough(0), 0);
        x.drop(2);
        DUE.is("d of the first one alone: enough(8)", x.enough(8), 1);
        DUE.is("d of the first one alone: enough(0)", x.enough(0), 0);
    }

    private static void eyesAtTheEdges() {
        FaultTwins x = Due.machine("?abcdefgh;0a1;");
        DUE.is("all DEEDS are EYES", x.enough(255), 1);
        DUE.is("none, too", x.enough(0), 1);
        DUE.is("one more bit", x.enough(256), FaultTwins.BAD);
        x = Due.machine("!ah;?abcdefgh;0a1;1b1;1g1;");
        DUE.is("all but the FAULTS", x.enough(126), 1);
        DUE.is("b alone", x.enough(2), 0);
        DUE.is("g alone", x.enough(64), 0);
        DUE.is("b and g", x.enough(66), 1);
        DUE.is("none", x.enough(0), 0);
        DUE.is("a FAULT", x.enough(1), FaultTwins.BAD);
        DUE.is("a FAULT", x.enough(128), FaultTwins.BAD);
        DUE.is("the FEWEST", x.fewest(0), 66);
        DUE.is("how many", x.fewest(1), 2);
        DUE.is("nothing is SEEN by it", x.told(5), 0);
        DUE.is("new: none are needed", new FaultTwins().fewest(0), 0);
        DUE.is("new: how many", new FaultTwins().fewest(1), 0);
        DUE.is("new: enough(0)", new FaultTwins().enough(0), 1);
        DUE.is("new: enough(1), a SEEN one", new FaultTwins().enough(1), FaultTwins.BAD);
    }

    private static void fewest(String machine, int eyes, int many) {
        FaultTwins x = Due.machine(machine);
        DUE.is(machine + " fewest(0)", x.fewest(0), eyes);
        DUE.is(machine + " fewest(1)", x.fewest(1), many);
    }

    private static void fewestOfLikeOnes() {
        // A round of DEEDS not SEEN: any one of them is ENOUGH, the least is told.
        fewest("!a;?abcdefgh;0a1;1b2;2c3;3d1;", 2, 1);
        fewest("!a;?abcdefgh;0a1;1h2;2c3;3d1;", 4, 1);
        fewest("!a;?abcdefgh;0a1;1h2;2h1;", 128, 1);
        // Two rounds: one of b, h and one of c, g.
        fewest("!a;?abcdefgh;0a1;1b2;2h1;1c3;3g1;", 6, 2);
        fewest("!b;?abcdefgh;0b1;1a2;2h1;1c3;3g1;1d1;", 13, 3);
        // h alone is as few as b alone, but 128 is more; b and c are less than h, but two.
        fewest("!a;?abcdefgh;0a1;1b2;2h1;", 2, 1);
        fewest("!a;?abcdefgh;0a1;1b2;1c2;2h1;", 128, 1);
        // All seven, and no EYES at all.
        fewest("!a;?abcdefgh;0a1;1b1;1c1;1d1;1e1;1f1;1g1;1h1;", 254, 7);
        fewest("!a;?abcdefgh;0a0;", FaultTwins.NONE, FaultTwins.NONE);
        fewest("!a;?a;0a1;1b1;0b0;", FaultTwins.NONE, FaultTwins.NONE);
    }

    /** The first drawn one by hand, of the least SEED and of the most. */
    private static void drawsAtTheEdges() {
        FaultTwins x = new FaultTwins();
        DUE.is("draw(0, 1)", x.draw(0, 1), 1);
        DUE.is("0: FROM, DEED, TO", x.of(0, 0) * 100 + x.of(0, 1) * 10 + x.of(0, 2), 40);
        // X is 1751684876: by 65536 it is 26728 (4 of 6), by 1024 1710629 (5 of 8), by 32768 53457 (3 of 6).
        DUE.is("draw(999999, 1)", x.draw(999999, 1), 1);
        DUE.is("999999: FROM, DEED, TO", x.of(0, 0) * 100 + x.of(0, 1) * 10 + x.of(0, 2), 453);
        x.deed(0, 0, 0);
        x.deed(7, 1, 1);
        DUE.is("draw leaves what DEEDS are", x.draw(5, 24) - x.told(4) + x.told(5), 254);
        DUE.is("draw leaves what DEEDS are", x.told(6), 128);
        for (int w = 0; w < x.told(4); w++) {
            DUE.holds("PLACES below 6", x.of(w, 0) < 6 && x.of(w, 2) < 6);
        }
        DUE.is("one drawn: all others go", x.draw(5, 1), 1);
        DUE.is("WAYS", x.told(4), 1);
    }
}
