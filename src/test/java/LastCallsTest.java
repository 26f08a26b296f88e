/** An object is used for 512 calls: behind 511 others each call answers yet as PlainTwins does. */
public final class LastCallsTest {
    private static final Due DUE = new Due("LastCallsTest");
    private static final int CALLS = 512;

    private interface Call {
        long on(FaultTwins x);
    }

    private interface PlainCall {
        long on(PlainTwins x);
    }

    /** An object and the plain one, and how many calls they had. */
    private static final class Both {
        final FaultTwins got = new FaultTwins();
        final PlainTwins want = new PlainTwins();
        int calls;

        void is(String call, Call one, PlainCall other) {
            calls++;
            DUE.is("call " + calls + ": " + call, one.on(got), other.on(want));
        }

        void type(int c) {
            is("type", x -> x.type(c), x -> x.type(c));
        }

        void machine(String text) {
            for (int i = 0; i < text.length(); i++) {
                type(text.charAt(i));
            }
            is("reads()", FaultTwins::reads, PlainTwins::reads);
        }
    }

    private interface Filling {
        void one(Both both, int i);
    }

    public static void main(String[] args) {
        behind(LastCallsTest::sight);
        behind(LastCallsTest::refusal);
        behind(LastCallsTest::change);
        behind(LastCallsTest::textByte);
        DUE.end();
    }

    /** Each call as the last one of an object of its own. */
    private static void behind(Filling filling) {
        last(filling, "way(9, 7, 9)", x -> x.way(9, 7, 9), x -> x.way(9, 7, 9));
        last(filling, "drop(0)", x -> x.drop(0), x -> x.drop(0));
        last(filling, "deed(0, 1, 1)", x -> x.deed(0, 1, 1), x -> x.deed(0, 1, 1));
        last(filling, "draw(7, 24)", x -> x.draw(7, 24), x -> x.draw(7, 24));
        last(filling, "anew()", FaultTwins::anew, PlainTwins::anew);
        last(filling, "of(0, 3)", x -> x.of(0, 3), x -> x.of(0, 3));
        last(filling, "sees(0)", x -> x.sees(0), x -> x.sees(0));
        last(filling, "restarts()", FaultTwins::restarts, PlainTwins::restarts);
        last(filling, "known(0)", x -> x.known(0), x -> x.known(0));
        last(filling, "would(0)", x -> x.would(0), x -> x.would(0));
        last(filling, "sight(7)", x -> x.sight(7), x -> x.sight(7));
        last(filling, "all(1)", x -> x.all(1), x -> x.all(1));
        last(filling, "all(5)", x -> x.all(5), x -> x.all(5));
        last(filling, "apart(1)", x -> x.apart(1), x -> x.apart(1));
        last(filling, "soonest(0)", x -> x.soonest(0), x -> x.soonest(0));
        last(filling, "enough(0)", x -> x.enough(0), x -> x.enough(0));
        last(filling, "fewest(0)", x -> x.fewest(0), x -> x.fewest(0));
        last(filling, "pair(11, 0)", x -> x.pair(11, 0), x -> x.pair(11, 0));
        last(filling, "type(33)", x -> x.type(33), x -> x.type(33));
        last(filling, "clear()", FaultTwins::clear, PlainTwins::clear);
        last(filling, "reads()", FaultTwins::reads, PlainTwins::reads);
        last(filling, "back()", FaultTwins::back, PlainTwins::back);
        last(filling, "told(7)", x -> x.told(7), x -> x.told(7));
        last(filling, "digest()", FaultTwins::digest, PlainTwins::digest);
    }

    private static void last(Filling filling, String name, Call one, PlainCall other) {
        Both both = new Both();
        both.machine("!g;?gd;0g1;0a0;0b0;1a1;1b2;2b1;2d2;");
        int before = both.calls;
        for (int i = 0; both.calls < CALLS - 1 && i < CALLS; i++) {
            filling.one(both, i);
        }
        DUE.holds("calls are made between", both.calls > before);
        both.is(name, one, other);
        DUE.is("calls", both.calls, CALLS);
    }

    private static void sight(Both both, int i) {
        int d = i * i % 7 % 2;
        both.is("sees(" + d + ")", x -> x.sees(d), x -> x.sees(d));
    }

    private static void refusal(Both both, int i) {
        switch (i % 3) {
            case 0 -> both.is("way(0, 6, 1)", x -> x.way(0, 6, 1), x -> x.way(0, 6, 1));
            case 1 -> both.is("sees(8)", x -> x.sees(8), x -> x.sees(8));
            default -> both.is("told(" + i % 4 + ")", x -> x.told(i % 4), x -> x.told(i % 4));
        }
    }

    private static void change(Both both, int i) {
        switch (i % 5) {
            case 0 -> both.is("way", x -> x.way(i % 10, i % 8, i / 10 % 10), x -> x.way(i % 10, i % 8, i / 10 % 10));
            case 1 -> both.is("deed", x -> x.deed(i % 8, i % 2, i / 8 % 2), x -> x.deed(i % 8, i % 2, i / 8 % 2));
            case 2 -> both.is("sees", x -> x.sees(i % 3), x -> x.sees(i % 3));
            case 3 -> both.is("back()", FaultTwins::back, PlainTwins::back);
            default -> both.is("way", x -> x.way(0, i % 8, i % 10), x -> x.way(0, i % 8, i % 10));
        }
    }

    private static void textByte(Both both, int i) {
        if (i % 50 == 0) {
            both.is("clear()", FaultTwins::clear, PlainTwins::clear);
        } else {
            both.type("!a;?b; ".charAt(i % 7));
        }
    }
}
