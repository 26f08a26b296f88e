/** Promises 13 to 18: all that can be. */
public final class AllThatCanBeTest {
    private static final Due DUE = new Due("AllThatCanBeTest");

    public static void main(String[] args) {
        all();
        fiveHundred();
        apart();
        roundsThatAreNoRings();
        soonest();
        enough();
        fewest();
        pairs();
        wrongNumbers();
        foundAnew();
        DUE.end();
    }

    private static void isAll(String machine, int... want) {
        FaultTwins x = Due.machine(machine);
        for (int what = 0; what < want.length; what++) {
            DUE.is(machine + " all(" + what + ")", x.all(what), want[what]);
        }
        DUE.is(machine + " STATES", x.told(7), 1);
    }

    private static void all() {
        // Sets: 0 and 11; 11 alone behind b. Pairs: 0 0 and 11 0.
        isAll("!g;?g;0g1;0a0;1b1;", 1 | 1 << 11, 2, 1, 1, 2, 1);
        // A FAULT that is seen: no pair has it.
        isAll("!g;0g1;1a1;0a0;", 1 | 1 << 11, 2, 0, 1, 1, 0);
        // Sets: 0 11, 2 13, 2 14, 2. Pairs: 0 0, 11 0, 2 2, 13 2, 14 2.
        isAll("!g;?g;0g1;0a2;1a3;3b4;2b2;", 1 | 1 << 2 | 1 << 11 | 1 << 13 | 1 << 14, 4, 3, 0, 5, 3);
        // Each of the two alone by d; what can not be reached counts not.
        isAll("?d;0d1;5a5;", 3, 1, 0, 0, 4, 0);
        isAll("!;?;", 1, 1, 0, 0, 1, 0);
    }

    private static void fiveHundred() {
        String chain = "0a0;0b0;0a1;1a2;1b2;2a3;2b3;3a4;3b4;4a5;4b5;5a6;5b6;6a7;6b7;";
        // KNOWN tells which of the last seven sights were a: all 128 can be.
        DUE.is("below 500", Due.machine(chain).all(1), 128);
        FaultTwins x = Due.machine(chain);
        Due.reads(x, "7a8;7b8;");
        DUE.is("256", x.all(1), 256);
        Due.reads(x, "8a9;8b9;");
        DUE.is("512 are 500", x.all(1), 500);
        DUE.is("no FAULT", x.all(2) + x.all(3), 0);
        // Which sets with the FAULT are among the 500 hangs on the order in which they are found.
        Due.reads(x, "!c;9c9;");
        DUE.is("500", x.all(1), 500);
        PlainTwins plain = new PlainTwins();
        for (int i = 0; i < x.told(4); i++) {
            plain.way(x.of(i, 0), x.of(i, 1), x.of(i, 2));
        }
        plain.deed(2, 1, 1);
        for (int what = 1; what <= 3; what++) {
            DUE.is("found in order: all(" + what + ")", x.all(what), plain.all(what));
        }
        DUE.is("found in order: soonest(0)", x.soonest(0), plain.soonest(0));
    }

    private static void isApart(String machine, int told, int delay) {
        FaultTwins x = Due.machine(machine);
        DUE.is(machine + " apart(0)", x.apart(0), told);
        DUE.is(machine + " apart(1)", x.apart(1), delay);
    }

    private static void apart() {
        isApart("!g;?g;0g1;0a0;1b1;", 1, 0);
        isApart("!g;?g;0g1;0a2;1a3;2b2;", 1, 1);
        isApart("!g;?g;0g1;0a2;1a3;3b4;2b2;", 1, 2);
        isApart("!g;?g;0g1;0a0;1a2;2a3;3a4;4a5;", 1, 4);
        isApart("!g;?g;0g1;0a0;1a2;2a3;3a4;4a5;5a3;", 0, FaultTwins.NONE);
        isApart("!g;?g;0g1;0a0;1a1;", 0, FaultTwins.NONE);
        isApart("!g;0g1;0a0;1a1;", 1, 0);
        isApart("0a0;", 1, 0);
        // WAYS of the MARK not seen count, and are a RING if they go round.
        isApart("!g;?gd;0g1;1d2;2d3;", 1, 2);
        isApart("!g;?gd;0g1;1d2;2d1;", 0, FaultTwins.NONE);
        // The fault again, not seen, is a WAY of the MARK; seen, no pair goes it.
        isApart("!g;?g;0g1;1g1;", 0, FaultTwins.NONE);
        isApart("!gh;?g;0g1;1h1;0h0;", 1, 0);
        // What can not be reached makes no RING.
        isApart("!g;?g;3g1;0a0;1a1;", 1, 0);
    }

    private static void roundsThatAreNoRings() {
        // The second one goes round alone: no WAY of the MARK is in it.
        isApart("!g;?gd;0g1;0d0;", 1, 0);
        isApart("!g;?gd;0g1;0d2;2d0;2a2;1a3;", 1, 1);
        // A round without the FAULT.
        isApart("!g;?g;0a0;2g2;", 1, 0);
    }

    private static void soonest() {
        FaultTwins x = Due.machine("!g;?g;0g1;0a0;1b1;");
        DUE.is("soonest(0)", x.soonest(0), 1);
        DUE.is("soonest(1)", x.soonest(1), 0);
        x.sees(1);
        DUE.is("from the beginning: soonest(0)", x.soonest(0), 1);
        x = Due.machine("!g;?g;0a1;1a2;2a3;3g4;3a3;4c4;");
        DUE.is("soonest(0)", x.soonest(0), 4);
        DUE.is("soonest(1)", x.soonest(1), 3);
        x = Due.machine("!g;0g1;");
        DUE.is("SURE at once", x.soonest(0), 1);
        DUE.is("never MAYBE", x.soonest(1), FaultTwins.NONE);
        x = Due.machine("!g;?g;0g0;");
        DUE.is("never SURE", x.soonest(0), FaultTwins.NONE);
        DUE.is("MAYBE at first", x.soonest(1), 0);
        // A long way by a, a short one by h, which is found later.
        x = Due.machine("!g;0a1;1a2;2g3;0h4;4g5;");
        DUE.is("the short way", x.soonest(0), 2);
    }

    private static void enough() {
        FaultTwins x = Due.machine("!g;?gbc;0g1;1b1;1c1;");
        int[][] eyes = {{0, 0}, {2, 0}, {4, 0}, {6, 1}};
        for (int[] row : eyes) {
            DUE.is("enough(" + row[0] + ")", x.enough(row[0]), row[1]);
        }
        int[] wrong = {1, 64, 256, 8, 7, 70, 512 | 2, -1, Integer.MIN_VALUE, Integer.MAX_VALUE, 1 << 30};
        for (int some : wrong) {
            DUE.is("enough(" + some + ")", x.enough(some), FaultTwins.BAD);
        }
        DUE.is("refused BAD", x.told(0), wrong.length);
        DUE.is("all stays: SEEN DEEDS", x.told(5), 255 & ~70);
        DUE.is("all stays: apart(0)", x.apart(0), 0);
        DUE.is("all stays: pairs", x.all(4), 2);
        x.deed(6, 0, 1);
        DUE.is("a FAULT that is SEEN is no EYE, too", x.enough(64), FaultTwins.BAD);
        DUE.is("none needed", x.enough(0), 1);
    }

    private static void isFewest(String machine, int eyes, int many) {
        FaultTwins x = Due.machine(machine);
        DUE.is(machine + " fewest(0)", x.fewest(0), eyes);
        DUE.is(machine + " fewest(1)", x.fewest(1), many);
        DUE.is(machine + " SEEN DEEDS stay", x.told(7), 1);
    }

    private static void fewest() {
        isFewest("!g;?gd;0g1;1d1;", 8, 1);
        isFewest("!g;?gbc;0g1;1b2;2c1;", 2, 1);
        isFewest("!g;?gbc;0g1;1b1;1c1;", 6, 2);
        // a and b are 3, less than c, 4; but c is one alone.
        isFewest("!g;?gabc;0g1;1a2;1b2;2c1;", 4, 1);
        isFewest("!g;?gabcdefh;0g1;1a1;1b1;1c1;1d1;1e1;1f1;1h1;", 191, 7);
        isFewest("!g;?gd;0g1;0a0;1a1;", FaultTwins.NONE, FaultTwins.NONE);
        isFewest("!g;?gd;0g1;0a0;1b1;", 0, 0);
        isFewest("?abcdefgh;0a0;", 0, 0);
    }

    private static void pairs() {
        // The second one goes round by d, 0 and 2; at 2 both go by a: both pairs are of the RING.
        FaultTwins x = Due.machine("!g;?gd;0g1;0d2;2d0;1a1;2a2;");
        for (int mark = 0; mark < 20; mark++) {
            for (int place = 0; place < 10; place++) {
                int want = mark == 11 ? 2 : mark == 0 || mark == 2 ? 1 : 0;
                if (place != 0 && place != 2) {
                    want = 0;
                }
                DUE.is("pair(" + mark + ", " + place + ")", x.pair(mark, place), want);
            }
        }
        // 11 0 comes to a RING and is of none; 12 0 goes round; 13 0 comes of it.
        x = Due.machine("!g;?g;0g1;0a0;1a2;2a2;2a3;");
        DUE.is("ahead of the RING", x.pair(11, 0), 1);
        DUE.is("of the RING", x.pair(12, 0), 2);
        DUE.is("behind the RING", x.pair(13, 0), 1);
        DUE.is("without a FAULT", x.pair(0, 0), 1);
        // The second one's round alone is no RING.
        DUE.is("no WAY of the MARK", Due.machine("!g;?gd;0g1;0d0;").pair(11, 0), 1);
        // A pair that would go round, but can not be.
        x = Due.machine("!g;?g;0g1;0a0;1a1;5a5;");
        DUE.is("it can not be", x.pair(11, 5), 0);
        DUE.is("no STATE of it", x.told(7), 1);
    }

    private static void wrongNumbers() {
        FaultTwins x = Due.machine("!g;?gd;0g1;1d1;");
        int bad = 0;
        for (int what : new int[] {-1, 6, Integer.MIN_VALUE, Integer.MAX_VALUE}) {
            DUE.is("all(" + what + ")", x.all(what), FaultTwins.BAD);
            bad++;
        }
        for (int what : new int[] {-1, 2, Integer.MIN_VALUE, Integer.MAX_VALUE}) {
            DUE.is("apart(" + what + ")", x.apart(what), FaultTwins.BAD);
            DUE.is("soonest(" + what + ")", x.soonest(what), FaultTwins.BAD);
            DUE.is("fewest(" + what + ")", x.fewest(what), FaultTwins.BAD);
            bad += 3;
        }
        int[][] wrong = {{-1, 0}, {20, 0}, {0, -1}, {0, 10}, {Integer.MAX_VALUE, 0}, {0, Integer.MIN_VALUE}};
        for (int[] pair : wrong) {
            DUE.is("pair(" + pair[0] + ", " + pair[1] + ")", x.pair(pair[0], pair[1]), FaultTwins.BAD);
            bad++;
        }
        DUE.is("refused BAD", x.told(0), bad);
        DUE.is("refused NO", x.told(1), 0);
        DUE.is("STATES", x.told(7), 1);
    }

    /** What was found out must not be told of the machine that was before. */
    private static void foundAnew() {
        FaultTwins x = Due.machine("!g;?gd;0g1;1d1;");
        isFound("as read", x, 0, 1, 8);
        x.drop(1);
        isFound("dropped", x, 1, 1, 0);
        x.back();
        isFound("back", x, 0, 1, 8);
        x.deed(3, 0, 1);
        isFound("d is seen", x, 1, 2, 0);
        Due.reads(x, "?g;0d0;");
        isFound("d of both", x, 0, 1, FaultTwins.NONE);
        x.draw(0, 1);
        isFound("drawn", x, 1, 1, 0);
        x.back();
        isFound("back again", x, 0, 1, FaultTwins.NONE);
        x.anew();
        isFound("anew", x, 1, 1, 0);
        x.back();
        x.way(0, 0, 2);
        isFound("a way more", x, 0, 2, FaultTwins.NONE);
    }

    private static void isFound(String when, FaultTwins x, int told, int sets, int eyes) {
        DUE.is(when + ": apart(0)", x.apart(0), told);
        DUE.is(when + ": all(1)", x.all(1), sets);
        DUE.is(when + ": fewest(0)", x.fewest(0), eyes);
    }
}
