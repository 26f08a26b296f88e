import java.util.Random;

/** Random machines with one FAULT or two, asked for all that can be, and the same of PlainTwins. */
public final class RandomMachinesTest {
    private static final int MACHINES = 900;
    private static final Due DUE = new Due("RandomMachinesTest");

    public static void main(String[] args) {
        Random random = new Random(2203);
        for (int i = 0; i < MACHINES; i++) {
            compare(random, "machine " + i + ": ");
        }
        DUE.end();
    }

    private static void compare(Random random, String where) {
        FaultTwins got = new FaultTwins();
        PlainTwins want = new PlainTwins();
        make(random, got, want);
        for (int what = 0; what <= 5; what++) {
            DUE.is(where + "all(" + what + ")", got.all(what), want.all(what));
        }
        for (int what = 0; what <= 1; what++) {
            DUE.is(where + "apart(" + what + ")", got.apart(what), want.apart(what));
            DUE.is(where + "soonest(" + what + ")", got.soonest(what), want.soonest(what));
            DUE.is(where + "fewest(" + what + ")", got.fewest(what), want.fewest(what));
        }
        for (int eyes = 0; eyes < 256; eyes += 1 + random.nextInt(40)) {
            DUE.is(where + "enough(" + eyes + ")", got.enough(eyes), want.enough(eyes));
        }
        for (int i = 0; i < 12; i++) {
            int mark = random.nextInt(20);
            int place = random.nextInt(10);
            DUE.is(where + "pair(" + mark + ", " + place + ")", got.pair(mark, place), want.pair(mark, place));
        }
        for (int w = 0; w < got.told(4); w++) {
            DUE.is(where + "of(" + w + ", 3)", got.of(w, 3), want.of(w, 3));
        }
        DUE.is(where + "digest()", got.digest(), want.digest());
    }

    private static void make(Random random, FaultTwins got, PlainTwins want) {
        int places = 2 + random.nextInt(9);
        int deeds = 2 + random.nextInt(7);
        for (int n = 2 + random.nextInt(23); n > 0; n--) {
            // Ways that go on to a later place make long delays.
            int from = random.nextInt(places);
            int to = random.nextBoolean() ? Math.min(9, from + 1) : random.nextInt(places);
            int d = random.nextInt(deeds);
            got.way(from, d, to);
            want.way(from, d, to);
        }
        for (int n = 1 + random.nextInt(2); n > 0; n--) {
            int fault = random.nextInt(deeds);
            got.deed(fault, 1, 1);
            want.deed(fault, 1, 1);
            int seen = random.nextInt(4) == 0 ? 1 : 0;
            got.deed(fault, 0, seen);
            want.deed(fault, 0, seen);
        }
        for (int n = random.nextInt(5); n > 0; n--) {
            int d = random.nextInt(deeds);
            got.deed(d, 0, 0);
            want.deed(d, 0, 0);
        }
    }
}
