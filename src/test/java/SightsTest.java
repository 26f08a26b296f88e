/** Promises 8 to 12: what is seen. */
public final class SightsTest {
    private static final Due DUE = new Due("SightsTest");

    /** g is the fault, g and d are not seen: 0 goes on by a, behind the fault by a or b. */
    private static final String LAMP = "!g;?gd;0g1;0a2;1a3;2a2;3b3;2d4;";

    public static void main(String[] args) {
        sees();
        wrongSees();
        restarts();
        known();
        would();
        sights();
        faultsThatAreSeen();
        DUE.end();
    }

    private static void sees() {
        FaultTwins x = Due.machine(LAMP);
        DUE.is("at first", x.known(0), 1 | 1 << 11);
        DUE.is("sees(a)", x.sees(0), 2);
        DUE.is("KNOWN", x.known(0), 1 << 2 | 1 << 4 | 1 << 13);
        DUE.is("STATES", x.told(7), 2);
        DUE.is("sees(b)", x.sees(1), 1);
        DUE.is("KNOWN", x.known(0), 1 << 13);
        DUE.is("sees(a), it can not be", x.sees(0), FaultTwins.NO);
        DUE.is("KNOWN stays", x.known(0), 1 << 13);
        DUE.is("sight stays", x.sight(0), 1);
        DUE.is("STATES stay", x.told(7), 3);
        x.back();
        DUE.is("sees(a) instead", x.sees(0), 0);
        DUE.is("KNOWN", x.known(0), 1 << 2 | 1 << 4);
    }

    private static void wrongSees() {
        FaultTwins x = Due.machine(LAMP);
        DUE.is("sees(-1)", x.sees(-1), FaultTwins.BAD);
        DUE.is("sees(8)", x.sees(8), FaultTwins.BAD);
        DUE.is("sees(g)", x.sees(6), FaultTwins.NO);
        DUE.is("sees(d)", x.sees(3), FaultTwins.NO);
        DUE.is("sees(b)", x.sees(1), FaultTwins.NO);
        DUE.is("refused BAD", x.told(0), 2);
        DUE.is("refused NO", x.told(1), 3);
        DUE.is("no STATE of it", x.told(7), 1);
        DUE.is("KNOWN stays", x.known(0), 1 | 1 << 11);
    }

    private static void restarts() {
        FaultTwins x = Due.machine(LAMP);
        DUE.is("restarts() at first", x.restarts(), 2);
        DUE.is("it leaves a STATE", x.told(7), 2);
        x.sees(0);
        x.sees(1);
        DUE.is("restarts()", x.restarts(), 2);
        DUE.is("KNOWN", x.known(0), 1 | 1 << 11);
        DUE.is("no sight", x.sight(0), FaultTwins.NONE);
        DUE.is("back()", x.back(), 4);
        DUE.is("KNOWN before", x.known(0), 1 << 13);
        DUE.is("sight before", x.sight(0), 1);
        DUE.is("sight before that", x.sight(1), 0);
        DUE.is("restarts() without a FAULT", Due.machine("0a1;").restarts(), 0);
    }

    private static void known() {
        FaultTwins x = Due.machine(LAMP);
        int[] first = {1 | 1 << 11, 2, 2, 1, 1};
        x.sees(0);
        int[] second = {1 << 2 | 1 << 4 | 1 << 13, 2, 3, 3, 1};
        isKnown("behind a", x, second);
        x.sees(1);
        isKnown("behind a and b", x, new int[] {1 << 13, 1, 1, 2, 0});
        x.restarts();
        isKnown("at first", x, first);
        DUE.is("known(5)", x.known(5), FaultTwins.BAD);
        DUE.is("known(-1)", x.known(-1), FaultTwins.BAD);
        DUE.is("refused BAD", x.told(0), 2);
        isKnown("a seen FAULT only", Due.machine("!g;0g1;1g1;"), new int[] {1, 0, 1, 64, 0});
    }

    private static void isKnown(String where, FaultTwins x, int[] want) {
        for (int what = 0; what < want.length; what++) {
            DUE.is(where + ": known(" + what + ")", x.known(what), want[what]);
        }
    }

    private static void would() {
        FaultTwins x = Due.machine(LAMP);
        DUE.is("would(a)", x.would(0), 2);
        DUE.is("would(b)", x.would(1), FaultTwins.NONE);
        DUE.is("would(g)", x.would(6), FaultTwins.NO);
        DUE.is("would(8)", x.would(8), FaultTwins.BAD);
        DUE.is("would(-1)", x.would(-1), FaultTwins.BAD);
        DUE.is("refused BAD", x.told(0), 2);
        DUE.is("refused NO: NONE is not refused", x.told(1), 1);
        DUE.is("all stays: KNOWN", x.known(0), 1 | 1 << 11);
        DUE.is("all stays: sight", x.sight(0), FaultTwins.NONE);
        DUE.is("all stays: STATES", x.told(7), 1);
        x.sees(0);
        DUE.is("would(a) behind a", x.would(0), 0);
        DUE.is("would(b) behind a", x.would(1), 1);
    }

    private static void sights() {
        FaultTwins x = Due.machine("0a0;0b0;0c0;");
        int[] seen = {0, 1, 2, 2, 1, 0, 0, 1, 0, 2};
        for (int i = 0; i < seen.length; i++) {
            x.sees(seen[i]);
            for (int k = 0; k < 12; k++) {
                int want = k <= i && k < 8 ? seen[i - k] : FaultTwins.NONE;
                DUE.is("sight(" + k + ") behind " + (i + 1), x.sight(k), want);
            }
        }
        DUE.is("sight(-1)", x.sight(-1), FaultTwins.BAD);
        DUE.is("sight(least)", x.sight(Integer.MIN_VALUE), FaultTwins.BAD);
        DUE.is("sight(most)", x.sight(Integer.MAX_VALUE), FaultTwins.NONE);
        DUE.is("refused BAD", x.told(0), 2);
        x.back();
        DUE.is("back: sight(0)", x.sight(0), 0);
        DUE.is("back: sight(7), one that was gone by then", x.sight(7), 1);
    }

    private static void faultsThatAreSeen() {
        FaultTwins x = Due.machine("!g;0g1;1a1;0a0;");
        DUE.is("at first", x.known(1), 0);
        DUE.is("sees(a)", x.sees(0), 0);
        DUE.is("would(g)", x.would(6), 1);
        DUE.is("sees(g)", x.sees(6), 1);
        DUE.is("KNOWN", x.known(0), 1 << 11);
        DUE.is("sees(a)", x.sees(0), 1);
        DUE.is("the FAULT stays", x.known(0), 1 << 11);
    }
}
