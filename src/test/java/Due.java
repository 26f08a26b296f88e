/** Counts the answers that are not as due, and ends a test as .ci/run wants it. */
final class Due {
    private final String test;
    private int looked;
    private int wrong;

    Due(String test) {
        this.test = test;
    }

    void is(String call, long got, long want) {
        looked++;
        if (got != want) {
            wrong++;
            System.out.println(test + ": " + call + " answered " + got + ", due is " + want);
        }
    }

    void holds(String what, boolean holds) {
        is(what, holds ? 1 : 0, 1);
    }

    /** Types a text behind what is there. */
    static void type(FaultTwins x, String text) {
        for (int i = 0; i < text.length(); i++) {
            x.type(text.charAt(i));
        }
    }

    /** A text instead of what is there, read. */
    static int reads(FaultTwins x, String text) {
        x.clear();
        type(x, text);
        return x.reads();
    }

    /** A new object with the machine of a text. */
    static FaultTwins machine(String text) {
        FaultTwins x = new FaultTwins();
        int orders = reads(x, text);
        if (orders < 0) {
            throw new IllegalStateException(text + " answered " + orders);
        }
        x.clear();
        return x;
    }

    void end() {
        System.out.println(test + ": " + looked + " answers, " + wrong + " not as due");
        if (wrong != 0 || looked == 0) {
            System.exit(1);
        }
    }
}
