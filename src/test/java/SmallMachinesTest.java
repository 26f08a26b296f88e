import java.util.ArrayList;
import java.util.List;

/**
 * Small machines, none left out: all of two PLACES and two DEEDS, and of three DEEDS those with up to
 * three WAYS; each with all that DEEDS can be, SEEN or not, a FAULT or not.
 */
public final class SmallMachinesTest {
    private static final Due DUE = new Due("SmallMachinesTest");
    private static final int PLACES = 2;

    public static void main(String[] args) {
        machines(2, 8);
        machines(3, 3);
        DUE.end();
    }

    private static void machines(int deeds, int mostWays) {
        int possible = PLACES * PLACES * deeds;
        for (int some = 0; some < 1 << possible; some++) {
            if (Integer.bitCount(some) <= mostWays) {
                for (int what = 0; what < 1 << 2 * deeds; what++) {
                    compare(deeds, some, what);
                }
            }
        }
    }

    /** The bits of some are WAYS, those of what are DEEDS not SEEN, then FAULTS. */
    private static void compare(int deeds, int some, int what) {
        String text = text(deeds, some, what);
        FaultTwins got = new FaultTwins();
        PlainTwins want = new PlainTwins();
        for (int i = 0; i < text.length(); i++) {
            got.type(text.charAt(i));
            want.type(text.charAt(i));
        }
        is(text, "reads()", got.reads(), want.reads());
        is(text, "known(0)", got.known(0), want.known(0));
        for (int n = 0; n <= 5; n++) {
            is(text, "all(" + n + ")", got.all(n), want.all(n));
        }
        for (int n = 0; n <= 1; n++) {
            is(text, "apart(" + n + ")", got.apart(n), want.apart(n));
            is(text, "soonest(" + n + ")", got.soonest(n), want.soonest(n));
            is(text, "fewest(" + n + ")", got.fewest(n), want.fewest(n));
        }
        for (int n = 0; n < 4 * PLACES; n++) {
            int mark = n / PLACES % 2 + (n < 2 * PLACES ? 0 : 10);
            is(text, "pair(" + mark + ", " + n % PLACES + ")", got.pair(mark, n % PLACES), want.pair(mark, n % PLACES));
        }
        for (int d = 0; d < deeds; d++) {
            is(text, "enough(" + (1 << d) + ")", got.enough(1 << d), want.enough(1 << d));
            is(text, "sees(" + d + ")", got.sees(d), want.sees(d));
        }
        is(text, "digest()", got.digest(), want.digest());
    }

    private static void is(String text, String call, long got, long want) {
        DUE.is(text + " " + call, got, want);
    }

    private static String text(int deeds, int some, int what) {
        StringBuilder text = new StringBuilder("?").append(letters(what, deeds)).append(";!");
        text.append(letters(what >> deeds, deeds)).append(';');
        List<String> ways = new ArrayList<>();
        for (int from = 0; from < PLACES; from++) {
            for (int d = 0; d < deeds; d++) {
                for (int to = 0; to < PLACES; to++) {
                    ways.add("" + from + (char) ('a' + d) + to + ";");
                }
            }
        }
        for (int w = 0; w < ways.size(); w++) {
            text.append((some >> w & 1) == 1 ? ways.get(w) : "");
        }
        return text.toString();
    }

    private static String letters(int bits, int deeds) {
        StringBuilder letters = new StringBuilder();
        for (int d = 0; d < deeds; d++) {
            letters.append((bits >> d & 1) == 1 ? "" + (char) ('a' + d) : "");
        }
        return letters.toString();
    }
}
