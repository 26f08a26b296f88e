/** Promises 19 to 24: texts, STATES, what is told. */
public final class TextsTest {
    private static final Due DUE = new Due("TextsTest");
    /** 24 WAYS from 0 to 2 by a to h. */
    private static final String[] FULL_MACHINE = {
        "0a0;0b0;0c0;0d0;0e0;0f0;0g0;0h0;0a1;0b1;0c1;0d1;0e1;0f1;0g1;0h1;",
        "0a2;0b2;0c2;0d2;0e2;0f2;0g2;0h2;"};

    public static void main(String[] args) {
        type();
        clear();
        readsOrders();
        readsFaults();
        readsWaysThatAreThere();
        readsTooMany();
        faultsDoNothing();
        back();
        backPastSix();
        told();
        digest();
        DUE.end();
    }

    private static void type() {
        FaultTwins x = new FaultTwins();
        for (int c = 0; c < 120; c++) {
            DUE.is("type(" + c + ")", x.type(c), c + 1);
        }
        DUE.is("a byte more", x.type(32), FaultTwins.FULL);
        DUE.is("a wrong byte more: BAD is ahead of FULL", x.type(128), FaultTwins.BAD);
        DUE.is("bytes", x.told(3), 120);
        DUE.is("clear()", x.clear(), 120);
        DUE.is("type(127)", x.type(127), 1);
        DUE.is("type(0)", x.type(0), 2);
        DUE.is("type(-1)", x.type(-1), FaultTwins.BAD);
        DUE.is("type(128)", x.type(128), FaultTwins.BAD);
        DUE.is("type(256 and a byte)", x.type(256 + 32), FaultTwins.BAD);
        DUE.is("bytes", x.told(3), 2);
        DUE.is("refused BAD", x.told(0), 4);
        DUE.is("refused FULL", x.told(2), 1);
        DUE.is("no STATE of it", x.told(7), 0);
    }

    private static void clear() {
        FaultTwins x = new FaultTwins();
        Due.type(x, "0a1;");
        DUE.is("clear()", x.clear(), 4);
        DUE.is("bytes", x.told(3), 0);
        DUE.is("clear() again", x.clear(), 0);
        DUE.is("reads() of none", x.reads(), -10);
        DUE.is("no STATE of it", x.told(7), 0);
    }

    private static void readsOrders() {
        FaultTwins x = new FaultTwins();
        DUE.is("one", Due.reads(x, "0a1;"), 1);
        DUE.is("THE TEXT stays", x.told(3), 4);
        DUE.is("STATES", x.told(7), 1);
        x.sees(0);
        DUE.is("seen", x.known(0), 2);
        DUE.is("blanks anywhere", Due.reads(x, "  9 h  8 ; ! g g a ; ? ; ?c h c ;  "), 4);
        DUE.is("WAYS come behind those before", x.of(1, 0) * 100 + x.of(1, 1) * 10 + x.of(1, 2), 978);
        DUE.is("FAULTS", x.told(6), 65);
        DUE.is("SEEN DEEDS", x.told(5), 255 & ~132);
        DUE.is("KNOWN is as at first", x.known(0), 1);
        DUE.is("no sight", x.sight(0), FaultTwins.NONE);
        DUE.is("STATES", x.told(7), 3);
        DUE.is("later ones go over earlier ones", Due.reads(x, "!b;?b;!c;?d;"), 4);
        DUE.is("FAULTS", x.told(6), 4);
        DUE.is("SEEN DEEDS", x.told(5), 255 & ~8);
        DUE.is("none", Due.reads(x, "!;?;"), 2);
        DUE.is("FAULTS", x.told(6), 0);
        DUE.is("SEEN DEEDS", x.told(5), 255);
        DUE.is("WAYS", x.told(4), 2);
        DUE.is("KNOWN with all ORDERS", Due.reads(x, "0g5;!g;?g;"), 3);
        DUE.is("KNOWN", x.known(0), 1 | 1 << 15);
        DUE.is("60 ORDERS", Due.reads(x, "!;?;".repeat(30)), 60);
        DUE.is("all signs", Due.reads(x, "?abcdefgh;!hgfedcba;"), 2);
        DUE.is("SEEN DEEDS", x.told(5), 0);
        DUE.is("FAULTS", x.told(6), 255);
    }

    private static void readsFaults() {
        Object[][] rows = {
            {"", 0}, {" ", 1}, {"   ", 3}, {";", 0}, {" ;", 1}, {"0", 1}, {"0 ", 2}, {"0a", 2}, {"0a1", 3},
            {"0a1 ", 4}, {"0a1;;", 4}, {"0a1; ;", 5}, {"0a1;2", 5}, {"!", 1}, {"?ab", 3}, {"!a;?", 4},
            {"a", 0}, {"0i1;", 1}, {"0A1;", 1}, {"01", 1}, {"0;", 1}, {"0aa", 2}, {"0a;", 2}, {"0a11;", 3},
            {"0a1a", 3}, {"0a1!", 3}, {"!i;", 1}, {"!1;", 1}, {"!!;", 1}, {"!?;", 1}, {"?!;", 1}, {"? b9;", 3},
            {"\t", 0}, {"0\na1;", 1}, {"0a1;\u0000", 4}, {"0a:;", 2}, {"0a/;", 2}, {"0`1;", 1}, {":a1;", 0},
            {"/a1;", 0}, {"0a1;x", 4}, {"0a1;!x", 5}, {"0a1,0a1;", 3}, {"\u007f", 0}, {"-1a1;", 0}};
        for (Object[] row : rows) {
            FaultTwins x = new FaultTwins();
            DUE.is("reads() of " + row[0], Due.reads(x, (String) row[0]), -10 - (Integer) row[1]);
            DUE.is("nothing done by " + row[0], x.told(4) + x.told(6) + x.told(7) + x.known(0), 1);
            DUE.is("nothing counts by " + row[0], x.told(0) + x.told(1) + x.told(2), 0);
        }
    }

    private static void readsWaysThatAreThere() {
        Object[][] rows = {
            {"0a1;0a1;", 4}, {"0a1;0a1", 4}, {"0a1; 0 a 1x", 5}, {"0a1;0a", 6}, {"0a1;0ax", 6}, {"0a1;0a1;x", 4},
            {"5f5;", 0}, {" 5f5;", 1}, {"5f", 2}, {"5f 5", 0}, {"!a;5f5", 3}, {"5f6;6f5;5f6", 8}};
        for (Object[] row : rows) {
            FaultTwins x = new FaultTwins();
            x.way(5, 5, 5);
            DUE.is("reads() of " + row[0], Due.reads(x, (String) row[0]), -10 - (Integer) row[1]);
            DUE.is("WAYS", x.told(4), 1);
        }
    }

    private static void readsTooMany() {
        FaultTwins x = Due.machine(FULL_MACHINE[0]);
        DUE.is("24 WAYS", Due.reads(x, FULL_MACHINE[1]), 8);
        Object[][] rows = {{"3", 0}, {" 3", 1}, {"3x", 0}, {"!a;3a3;", 3}, {"0a0;", 0}, {"!a;x", 3}, {"!a; 9", 4}};
        for (Object[] row : rows) {
            DUE.is("reads() of " + row[0], Due.reads(x, (String) row[0]), -10 - (Integer) row[1]);
        }
        DUE.is("no WAY, no FAULT", Due.reads(x, "!a;"), 1);
        x.drop(0);
        DUE.is("the 24th is right, the 25th is not", Due.reads(x, "3a3;4"), -14);
        DUE.is("a way that is there, once its figure stands", Due.reads(x, "0b0;"), -10);
        DUE.is("the 24th", Due.reads(x, "3a3; "), 1);
        DUE.is("WAYS", x.told(4), 24);
        DUE.is("nothing counts", x.told(0) + x.told(1) + x.told(2), 0);
    }

    private static void faultsDoNothing() {
        FaultTwins x = Due.machine("!g;?gd;0g1;0a0;1a2;");
        x.sees(0);
        long before = x.digest();
        int bytes = x.told(3);
        DUE.is("reads()", Due.reads(x, "!a;?b;5f5;6g6;7"), -25);
        x.clear();
        DUE.is("as many bytes", x.told(3), bytes);
        DUE.is("all is as it was", x.digest(), before);
        DUE.is("sight", x.sight(0), 0);
    }

    private static void back() {
        FaultTwins x = new FaultTwins();
        x.way(0, 0, 1);
        x.deed(1, 1, 1);
        x.sees(0);
        x.type('!');
        x.way(0, 0, 11);
        DUE.is("back() behind sees", x.back(), 2);
        DUE.is("KNOWN", x.known(0), 1);
        DUE.is("sight", x.sight(0), FaultTwins.NONE);
        DUE.is("WAYS", x.told(4), 1);
        DUE.is("THE TEXT stays", x.told(3), 1);
        DUE.is("how often stays", x.told(0), 1);
        DUE.is("back() behind deed", x.back(), 1);
        DUE.is("FAULTS", x.told(6), 0);
        DUE.is("back() behind way", x.back(), 0);
        DUE.is("WAYS", x.told(4), 0);
        DUE.is("back() of none", x.back(), FaultTwins.NO);
        DUE.is("refused NO", x.told(1), 1);
        DUE.is("STATES", x.told(7), 0);
        DUE.is("restarts, that changes nothing, leaves a STATE", x.restarts(), 0);
        DUE.is("STATES", x.told(7), 1);
        DUE.is("back()", x.back(), 0);
    }

    private static void backPastSix() {
        FaultTwins x = new FaultTwins();
        for (int i = 0; i < 9; i++) {
            x.way(0, 0, i);
        }
        x.sees(0);
        x.sees(0);
        DUE.is("STATES", x.told(7), 6);
        int[] ways = {9, 9, 8, 7, 6, 5};
        for (int i = 0; i < 6; i++) {
            DUE.is("back()", x.back(), 5 - i);
            DUE.is("WAYS", x.told(4), ways[i]);
        }
        DUE.is("older ones are lost", x.back(), FaultTwins.NO);
        DUE.is("WAYS", x.told(4), 5);
        x.way(9, 7, 9);
        DUE.is("STATES", x.told(7), 1);
        DUE.is("back()", x.back(), 0);
        DUE.is("WAYS", x.told(4), 5);
    }

    private static void told() {
        FaultTwins x = Due.machine("!g;?gd;0g1;");
        x.type('a');
        x.way(0, 6, 1);
        x.sees(6);
        int[] want = {0, 2, 0, 1, 1, 255 & ~72, 64, 1};
        for (int what = 0; what < want.length; what++) {
            DUE.is("told(" + what + ")", x.told(what), want[what]);
        }
        DUE.is("told(8)", x.told(8), FaultTwins.BAD);
        DUE.is("told(-1)", x.told(-1), FaultTwins.BAD);
        DUE.is("refused BAD", x.told(0), 2);
    }

    private static void digest() {
        String[] machines = {"!;", "!g;?gd;0g1;1d1;", "!g;?g;0g1;0a2;1a3;3b4;2b2;", "?abcdefgh;0a1;1b2;"};
        for (String machine : machines) {
            FaultTwins x = Due.machine(machine);
            DUE.is("digest() of " + machine, x.digest(), byParts(x));
            x.sees(0);
            x.way(-1, 0, 0);
            Due.type(x, "0a1");
            DUE.is("digest() of " + machine + " later", x.digest(), byParts(x));
            DUE.is("digest() tells the same again", x.digest(), byParts(x));
        }
        // 2203; 0 0 0 0 0 255 0 0; 1 0 1 0; 1 1 0; 1 0
        long h = 2203;
        for (int v : new int[] {0, 0, 0, 0, 0, 255, 0, 0, 1, 0, 1, 0, 1, 1, 0, 1, 0}) {
            h = 31 * h + v;
        }
        DUE.is("digest() of a new one", new FaultTwins().digest(), h);
    }

    private static long byParts(FaultTwins x) {
        long h = 2203;
        for (int what = 0; what < 8; what++) {
            h = 31 * h + x.told(what);
        }
        for (int w = 0; w < x.told(4); w++) {
            h = 31 * (31 * (31 * h + x.of(w, 0)) + x.of(w, 1)) + x.of(w, 2);
        }
        for (int what = 0; what < 4; what++) {
            h = 31 * h + x.known(what);
        }
        h = 31 * (31 * (31 * h + x.all(0)) + x.all(4)) + x.all(5);
        return 31 * (31 * h + x.apart(0)) + x.apart(1);
    }
}
