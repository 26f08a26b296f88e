/** THE TEXT, byte by byte: where it may end, which byte can not stand where, the WAYS it may tell. */
public final class TextEdgesTest {
    private static final Due DUE = new Due("TextEdgesTest");
    private static final String FIGURES = "0123456789";
    private static final String LETTERS = "abcdefgh";
    /** 24 WAYS, none from 9; 96 bytes. */
    private static final String ALL_WAYS = allWays();

    public static void main(String[] args) {
        emptyTexts();
        endsTooEarly();
        everyByteAtEveryPlace();
        theFirstWrongByteIsTold();
        blanksAnywhere();
        letterOrders();
        aTwentyFifthWay();
        aTwentyFifthOfOneText();
        aWayThatIsThere();
        aWayThatIsThereInTheText();
        oneHundredAndTwentyBytes();
        nothingIsDone();
        readAgain();
        typedAndCleared();
        DUE.end();
    }

    private static String allWays() {
        StringBuilder text = new StringBuilder();
        for (int w = 0; w < 24; w++) {
            text.append(w % 3).append(LETTERS.charAt(w / 3)).append((w + 1) % 3).append(';');
        }
        return text.toString();
    }

    private static void fault(FaultTwins x, String text, int place) {
        DUE.is("reads() of '" + text + "'", Due.reads(x, text), -10 - place);
    }

    private static void fault(String text, int place) {
        fault(new FaultTwins(), text, place);
    }

    private static void orders(String text, int many) {
        DUE.is("reads() of '" + text + "'", Due.reads(new FaultTwins(), text), many);
    }

    private static void emptyTexts() {
        DUE.is("reads() of a new one", new FaultTwins().reads(), -10);
        for (int blanks = 0; blanks <= 120; blanks += 8) {
            fault(" ".repeat(blanks), blanks);
        }
        fault(" ", 1);
        FaultTwins x = new FaultTwins();
        Due.type(x, "0a1;");
        x.clear();
        DUE.is("reads() of one that was cleared", x.reads(), -10);
        fault(";", 0);
        fault("  ;", 2);
    }

    /** Every beginning of a right text: its length is told, but where an ORDER has just ended. */
    private static void endsTooEarly() {
        String text = " 0 a 1 ; !bc; ? ; ?d d;9h9; ";
        int whole = 0;
        for (int length = 0; length <= text.length(); length++) {
            String begun = text.substring(0, length);
            String order = begun.substring(begun.lastIndexOf(';') + 1);
            whole += begun.endsWith(";") ? 1 : 0;
            boolean ended = whole > 0 && order.isBlank();
            DUE.is("reads() of '" + begun + "'", Due.reads(new FaultTwins(), begun), ended ? whole : -10 - length);
        }
        DUE.is("ORDERS", whole, 5);
    }

    /** All 128 bytes at each place of a text: what can not stand there is told, whatever follows. */
    private static void everyByteAtEveryPlace() {
        String text = "0a1;!b;?c;2d3;";
        String start = FIGURES + "!? ";
        String list = LETTERS + "; ";
        String[] may = {start, LETTERS + " ", FIGURES + " ", "; ", start, list, list, start, list, list,
            start, LETTERS + " ", FIGURES + " ", "; "};
        for (int place = 0; place < text.length(); place++) {
            for (char c = 0; c < 128; c++) {
                String changed = text.substring(0, place) + c + text.substring(place + 1);
                int answer = Due.reads(new FaultTwins(), changed);
                String where = "byte " + (int) c + " at " + place;
                if (may[place].indexOf(c) < 0) {
                    DUE.is(where, answer, -10 - place);
                } else {
                    DUE.holds(where + " can stand there", answer != -10 - place);
                }
            }
        }
    }

    private static void theFirstWrongByteIsTold() {
        fault("x0a1;y", 0);
        fault("0xx1;", 1);
        fault("0a1;!bx;?y;z", 6);
        fault("0a1;00", 5);
        fault("0a1;;;", 4);
        fault("!;;", 2);
        fault("!b!c;", 2);
        fault("?b?c;", 2);
        fault("!0a1;", 1);
        fault("0!a;", 1);
        fault("0a?;", 2);
        fault("0ab1;", 2);
        fault("0a1b;", 3);
        fault("00a1;", 1);
        fault("0a10;", 3);
        fault("!A;", 1);
        fault("?H;", 1);
        fault("0a1:", 3);
        fault("0\u0000a1;", 1);
        fault("0a1;\n", 4);
        fault("0a1;\u001f", 4);
        fault("0a1;\u007f", 4);
    }

    private static void blanksAnywhere() {
        FaultTwins x = new FaultTwins();
        DUE.is("blanks", Due.reads(x, "   0   b   9   ;   !   g   h   ;   ?   g   ;   "), 3);
        DUE.is("FROM", x.of(0, 0), 0);
        DUE.is("DEED", x.of(0, 1), 1);
        DUE.is("TO", x.of(0, 2), 9);
        DUE.is("FAULTS", x.told(6), 192);
        DUE.is("SEEN DEEDS", x.told(5), 255 & ~64);
        orders("! ;", 1);
        orders("?      ;", 1);
        orders("!;  ", 1);
        fault("  x", 2);
        fault("0  x", 3);
        fault("0 a  x", 5);
        fault("0 a 1  x", 7);
        fault("!  x", 3);
    }

    private static void letterOrders() {
        for (int d = 0; d < 8; d++) {
            FaultTwins x = new FaultTwins();
            String letter = LETTERS.substring(d, d + 1);
            DUE.is("! and ? of " + letter, Due.reads(x, "!" + letter + ";?" + letter + letter + ";"), 2);
            DUE.is("FAULTS " + letter, x.told(6), 1 << d);
            DUE.is("SEEN DEEDS but " + letter, x.told(5), 255 & ~(1 << d));
        }
        FaultTwins x = Due.machine("!abcdefgh;?abcdefgh;");
        DUE.is("all FAULTS", x.told(6), 255);
        DUE.is("none SEEN", x.told(5), 0);
        Due.reads(x, "!;");
        DUE.is("no FAULTS", x.told(6), 0);
        DUE.is("SEEN DEEDS are left as they are", x.told(5), 0);
        Due.reads(x, "?c;");
        DUE.is("just these are not SEEN", x.told(5), 255 & ~4);
        Due.reads(x, "!c;?;");
        DUE.is("just these are FAULTS", x.told(6), 4);
        DUE.is("all SEEN", x.told(5), 255);
        Due.reads(x, "!a;!b;?c;!;?d;?e;!h;");
        DUE.is("the last ! holds", x.told(6), 128);
        DUE.is("the last ? holds", x.told(5), 255 & ~16);
        Due.reads(x, "!a;0a1;!;");
        DUE.is("a later ! of none holds", x.told(6), 0);
        // What the DEEDS are behind all ORDERS makes KNOWN, wherever the WAY stands.
        Due.reads(x, "?g;0g5;!g;");
        DUE.is("KNOWN behind all ORDERS", x.known(0), 1 | 1 << 15);
        Due.reads(x, "!;?;");
        DUE.is("KNOWN behind all ORDERS", x.known(0), 1);
    }

    private static FaultTwins fullMachine() {
        return Due.machine(ALL_WAYS);
    }

    private static void aTwentyFifthWay() {
        for (String follows : new String[] {"", " ", "x", "a", "9", ";", "a9", "a9;", "h9;x", " h 9 ;", "!", "a9;9a8;"}) {
            fault(fullMachine(), "9" + follows, 0);
            fault(fullMachine(), "  9" + follows, 2);
            fault(fullMachine(), "!a;?b; 9" + follows, 7);
            FaultTwins x = fullMachine();
            x.drop(23);
            fault(x, "9a9;8" + follows, 4);
            x.drop(22);
            fault(x, "9a9;!;9b9;? ;8" + follows, 13);
        }
        fault(fullMachine(), "0a1;", 0);
        fault(fullMachine(), "!a;0a1;", 3);
        fault(fullMachine(), "x9a9;", 0);
        fault(fullMachine(), "!x;9a9;", 1);
        FaultTwins x = fullMachine();
        DUE.is("no WAY more", Due.reads(x, "!a;?b;"), 2);
        x.drop(0);
        DUE.is("the 24th WAY", Due.reads(x, "9a9;!c;"), 2);
        DUE.is("WAYS", x.told(4), 24);
        DUE.is("nothing counts", x.told(0) + x.told(1) + x.told(2), 0);
    }

    private static void aTwentyFifthOfOneText() {
        FaultTwins x = new FaultTwins();
        DUE.is("24 WAYS", Due.reads(x, ALL_WAYS), 24);
        DUE.is("WAYS", x.told(4), 24);
        x.anew();
        fault(x, ALL_WAYS + "9", 96);
        fault(x, ALL_WAYS + "  9a9;", 98);
        DUE.is("nothing is done", x.told(4), 0);
        DUE.is("24 WAYS and all else", Due.reads(x, ALL_WAYS + "!a;?b;"), 26);
    }

    private static FaultTwins oneWay() {
        FaultTwins x = new FaultTwins();
        x.way(5, 5, 5);
        return x;
    }

    private static void aWayThatIsThere() {
        for (String follows : new String[] {"", " ", ";", "x", "5", ";x", ";5f5;", ";9h9;", "!"}) {
            fault(oneWay(), "5f5" + follows, 0);
            fault(oneWay(), " 5f5" + follows, 1);
            fault(oneWay(), " 5 f 5" + follows, 1);
            fault(oneWay(), "!a;9a9; 5f5" + follows, 8);
        }
        // Before the second figure stands, it may yet be another WAY.
        fault(oneWay(), "5", 1);
        fault(oneWay(), "5f", 2);
        fault(oneWay(), "5f ", 3);
        fault(oneWay(), "5fx", 2);
        fault(oneWay(), "5f;", 2);
        fault(oneWay(), "5x5;", 1);
        DUE.is("another FROM", Due.reads(oneWay(), "4f5;"), 1);
        DUE.is("another DEED", Due.reads(oneWay(), "5e5;"), 1);
        DUE.is("another TO", Due.reads(oneWay(), "5f4;"), 1);
        FaultTwins x = oneWay();
        fault(x, "5f5;", 0);
        DUE.is("nothing counts, not NO", x.told(0) + x.told(1) + x.told(2), 0);
        x.drop(0);
        DUE.is("it is there no more", Due.reads(x, "5f5;"), 1);
    }

    private static void aWayThatIsThereInTheText() {
        fault("0a1;0a1;", 4);
        fault("0a1;0a1", 4);
        fault("0a1; 0 a 1 x", 5);
        fault("0a1;0a", 6);
        fault("0a1;0a2;1a0;0a1", 12);
        fault("0a1;!a;?b;0a1;", 10);
        // The one ahead is of the text alone: by the FAULT it is not there.
        FaultTwins x = new FaultTwins();
        fault(x, "0a1;0a1;", 4);
        DUE.is("it can come", x.way(0, 0, 1), 0);
    }

    private static void oneHundredAndTwentyBytes() {
        orders("!;?;".repeat(30), 60);
        fault("!;".repeat(59) + "!x", 119);
        fault("!;".repeat(59) + "!a", 120);
        fault(" ".repeat(119) + "x", 119);
        fault(" ".repeat(119) + "!", 120);
        orders(" ".repeat(118) + "!;", 1);
        FaultTwins x = new FaultTwins();
        Due.type(x, "!;".repeat(60));
        DUE.is("the 121st is not there", x.type('x'), FaultTwins.FULL);
        DUE.is("bytes", x.told(3), 120);
        DUE.is("reads() without it", x.reads(), 60);
    }

    private static void nothingIsDone() {
        String[] faulty = {"!a;?b;5f5;6g6;7", "?abcdefgh;x", "!h;0a2;", "", "  ", "9a9;9a9;", "!;?;;", "0a2x"};
        for (String text : faulty) {
            FaultTwins x = Due.machine("!g;?gd;0g1;0a2;1a2;2b2;");
            FaultTwins untouched = Due.machine("!g;?gd;0g1;0a2;1a2;2b2;");
            x.sees(0);
            untouched.sees(0);
            x.drop(9);
            untouched.drop(9);
            Due.type(x, text);
            Due.type(untouched, text);
            DUE.holds("a FAULT of '" + text + "'", x.reads() <= -10);
            for (int what = 0; what <= 2; what++) {
                DUE.is("by '" + text + "' nothing counts", x.told(what), untouched.told(what));
            }
            Alike.look(DUE, "'" + text + "'", x, untouched);
        }
    }

    private static void readAgain() {
        FaultTwins x = new FaultTwins();
        DUE.is("reads()", Due.reads(x, "!a;0a1;"), 2);
        DUE.is("THE TEXT stays", x.told(3), 7);
        DUE.is("reads() again: the WAY is there", x.reads(), -13);
        x.back();
        DUE.is("reads() behind back", x.reads(), 2);
        x.anew();
        DUE.is("reads() behind anew", x.reads(), 2);
        x.type('?');
        DUE.is("more behind it", x.reads(), -13);
        x.drop(0);
        DUE.is("ends too early", x.reads(), -18);
        x.type(';');
        DUE.is("ends", x.reads(), 3);
    }

    private static void typedAndCleared() {
        FaultTwins x = new FaultTwins();
        DUE.is("clear() of none", x.clear(), 0);
        for (int i = 1; i <= 120; i++) {
            DUE.is("type", x.type(i % 128), i);
        }
        DUE.is("FULL", x.type(1), FaultTwins.FULL);
        DUE.is("bytes", x.told(3), 120);
        DUE.is("clear()", x.clear(), 120);
        DUE.is("clear() again", x.clear(), 0);
        DUE.is("bytes", x.told(3), 0);
        for (int i = 1; i <= 120; i++) {
            DUE.is("type again", x.type('!'), i);
        }
        DUE.is("FULL again", x.type('!'), FaultTwins.FULL);
        DUE.is("refused FULL", x.told(2), 2);
    }
}
