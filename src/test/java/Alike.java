/**
 * Two objects that must tell the same in all that can be asked, their STATES and THE TEXT too. Going
 * back and reading change both, so they are done last; with the making of a full object all of it
 * stays below the 512 calls that an object is good for.
 */
final class Alike {
    private final Due due;
    private final String where;
    private final FaultTwins one;
    private final FaultTwins other;

    private Alike(Due due, String where, FaultTwins one, FaultTwins other) {
        this.due = due;
        this.where = where + ": ";
        this.one = one;
        this.other = other;
    }

    /** All but how often calls were refused. */
    static void look(Due due, String where, FaultTwins one, FaultTwins other) {
        Alike alike = new Alike(due, where, one, other);
        alike.machine();
        alike.sights();
        alike.allThatCanBe();
        alike.states();
        alike.text();
    }

    private void is(String call, int got, int want) {
        due.is(where + call, got, want);
    }

    private void machine() {
        for (int what = 3; what <= 7; what++) {
            is("told(" + what + ")", one.told(what), other.told(what));
        }
        int ways = Math.min(one.told(4), other.told(4));
        for (int w = 0; w < ways; w++) {
            way(w);
            is("of(" + w + ", 3)", one.of(w, 3), other.of(w, 3));
        }
    }

    private void way(int w) {
        for (int what = 0; what <= 2; what++) {
            is("of(" + w + ", " + what + ")", one.of(w, what), other.of(w, what));
        }
    }

    private void sights() {
        for (int what = 0; what <= 4; what++) {
            is("known(" + what + ")", one.known(what), other.known(what));
        }
        for (int k = 0; k <= 8; k++) {
            is("sight(" + k + ")", one.sight(k), other.sight(k));
        }
        int seen = one.told(5) & other.told(5);
        for (int d = 0; d < 8; d++) {
            if ((seen >> d & 1) == 1) {
                is("would(" + d + ")", one.would(d), other.would(d));
            }
        }
    }

    private void allThatCanBe() {
        for (int what = 0; what <= 5; what++) {
            is("all(" + what + ")", one.all(what), other.all(what));
        }
        for (int what = 0; what <= 1; what++) {
            is("apart(" + what + ")", one.apart(what), other.apart(what));
            is("soonest(" + what + ")", one.soonest(what), other.soonest(what));
            is("fewest(" + what + ")", one.fewest(what), other.fewest(what));
        }
        is("enough(0)", one.enough(0), other.enough(0));
        for (int i = 0; i < 200; i += 7) {
            is("pair(" + i / 10 + ", " + i % 10 + ")", one.pair(i / 10, i % 10), other.pair(i / 10, i % 10));
        }
    }

    private void states() {
        int left = Math.min(one.told(7), other.told(7));
        for (int i = 0; i < left; i++) {
            is("back()", one.back(), other.back());
            for (int what = 4; what <= 6; what++) {
                is("further back: told(" + what + ")", one.told(what), other.told(what));
            }
            is("further back: known(0)", one.known(0), other.known(0));
            for (int k = 0; k <= 7; k++) {
                is("further back: sight(" + k + ")", one.sight(k), other.sight(k));
            }
            int last = one.told(4) - 1;
            if (last >= 0) {
                way(last);
            }
        }
    }

    private void text() {
        is("reads()", one.reads(), other.reads());
        for (int what = 3; what <= 7; what++) {
            is("behind reads(): told(" + what + ")", one.told(what), other.told(what));
        }
    }
}
