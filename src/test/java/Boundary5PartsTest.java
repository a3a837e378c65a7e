/** Boundary cases of promises 24 to 29: tell, read, as, trace, fault, many. */
public final class Boundary5PartsTest {
    private static final int UNKNOWN = Boundary.UNKNOWN, OUTSIDE = Boundary.OUTSIDE;
    private static final int NULL = Boundary.NULL, CAST = Boundary.CAST, INDEX = Boundary.INDEX, SIZE = Boundary.SIZE;
    private static final String[] NO_SUCH_OF_THREE = {"-1", "3", "MIN", "MAX"};

    public static void main(String[] args) throws Exception {
        Boundary.runAll(Boundary5PartsTest.class);
    }

    // ---- promise 24

    private static void told(String call, long want, long trace) {
        Run.ofText("b;P1-;P9a;L1b;L9c;D1d;D9-,1-").due(call, want).due("trace", trace);
    }

    @Holds(promise = 24, to = {"PLAIN (1): LETTERS.", "LONG (2): what PLAIN's gives, and 100.",
        "DOUBLE (3): what LONG's gives, and what PLAIN's gives (LONG's left out)."})
    static void p24_fewestAndMostLettersOfEachKind() {
        told("tell 0", 1, 1);
        told("tell 1", 9, 1);
        told("tell 2", 101, 2 * 31 + 1);
        told("tell 3", 109, 2 * 31 + 1);
        told("tell 4", 102, ((3 * 31 + 2) * 31 + 1) * 31 + 1);
        told("tell 5", 118, ((3 * 31 + 2) * 31 + 1) * 31 + 1);
    }

    @Holds(promise = 24, to = "UNKNOWN")
    static void p24_unknownSentence_leavesNoTrace() {
        for (String a : NO_SUCH_OF_THREE) {
            Boundary.refused("tell " + a, UNKNOWN);
        }
        Boundary.refused(new Run(), "tell 0", UNKNOWN);
        Boundary.refused(Run.ofText("b;P1-,1-,1-"), "tell 1", UNKNOWN);
    }

    // ---- promise 25

    @Holds(promise = 25, to = {"READ by a lent body (4): its ANCHOR (0 .. 3; 4: none)",
        "DOUBLE ones have their own (5): what the lent body gives, and 80 (4 behind 5)"})
    static void p25_allAnchorsAndNoneOfEachKind() {
        for (int kind = 0; kind < 3; kind++) {
            for (int anchor = 0; anchor < 5; anchor++) {
                Run run = Run.ofText("b;" + "PLD".charAt(kind) + "9" + "abcd-".charAt(anchor) + ",1-");
                run.due("read 0", kind == 2 ? 80 + anchor : anchor).due("trace", kind == 2 ? 5 * 31 + 4 : 4);
            }
        }
    }

    @Holds(promise = 25, to = "UNKNOWN")
    static void p25_unknownSentence_leavesNoTrace() {
        for (String a : NO_SUCH_OF_THREE) {
            Boundary.refused("read " + a, UNKNOWN);
        }
        Boundary.refused(new Run(), "read 0", UNKNOWN);
        Boundary.refused(Run.ofText("b;P1-,1-,1-"), "read 1", UNKNOWN);
    }

    // ---- promise 26

    @Holds(promise = 26, to = "CAST: it is none (each is a PLAIN one, too; a DOUBLE one is a LONG one)")
    static void p26_eachKindAsEachKind() {
        for (int a = 0; a < 3; a++) {
            for (int kind = 0; kind < 3; kind++) {
                if (kind <= a) {
                    Boundary.onlyAnswers(Boundary.ready(), "as " + a + " " + kind, 1);
                } else {
                    Boundary.failed("as " + a + " " + kind, CAST);
                }
            }
        }
    }

    @Holds(promise = 26, to = "UNKNOWN; OUTSIDE; CAST")
    static void p26_unknownSentence_aheadOfKind() {
        for (String a : NO_SUCH_OF_THREE) {
            Boundary.refused("as " + a + " 0", UNKNOWN);
            Boundary.refused("as " + a + " 3", UNKNOWN);
        }
        Boundary.refused(new Run(), "as 0 0", UNKNOWN);
    }

    @Holds(promise = 26, to = "OUTSIDE; CAST")
    static void p26_outsideKind_aheadOfCast() {
        for (String kind : new String[] {"-1", "3", "MIN", "MAX"}) {
            Boundary.refused("as 0 " + kind, OUTSIDE);
            Boundary.refused("as 2 " + kind, OUTSIDE);
        }
    }

    // ---- promise 27

    @Holds(promise = 27, to = {"TRACE.", "an int that wraps, 0 at first"})
    static void p27_0AtFirst_andWithoutBodies() {
        new Run().due("trace", 0).with("tell 0", "read 0").due("trace", 0);
        Run.ofText("b;P3a,4a").with("ofLeft 0 2", "kinds 0", "best 0", "as 0 0", "letterings 0").due("trace", 0);
    }

    @Holds(promise = 27, to = "an int that wraps, 0 at first, becomes 31 times it and the number")
    static void p27_wrapsBelow0AndAboveAgain() {
        Run run = Run.ofText("b;P1-,1-");
        long trace = 0;
        boolean wasBelow = false;
        boolean wasAbove = false;
        for (int k = 0; k < 40; k++) {
            run.with("tell 0");
            // The lower 32 bits, as those of an int.
            trace = (trace * 31 + 1) & 0xFFFFFFFFL;
            long due = trace > Integer.MAX_VALUE ? trace - 0x100000000L : trace;
            run.due("trace", due);
            wasBelow |= due < 0;
            wasAbove |= wasBelow && due > 0;
        }
        Boundary.due("the test wraps both ways", wasAbove ? 1 : 0, 1);
    }

    @Holds(promise = 27, to = "TRACE.")
    static void p27_isAnsweredByThe512thCall() {
        Run run = Run.ofText("b;D1-,1-");
        int trace = 0;
        while (run.calls() < 511) {
            run.with("read 0");
            trace = (trace * 31 + 5) * 31 + 4;
        }
        run.due("trace", trace);
    }

    @Holds(promise = 27, to = {"TRACE.",
        "A TEXT that is taken makes all anew: SKIP is 4, JOIN 1, the BAND 7, no READINGS."})
    static void p27_staysAsAnotherTextIsTaken() {
        Run run = Run.ofText("b;P3a,4a").with("tell 0");
        Boundary.due("another text", run.text("b;D3a,4a"), 2);
        run.due("trace", 1);
    }

    // ---- promise 28

    @Holds(promise = 28, to = "(0 ahead of any)")
    static void p28_0AheadOfAny() {
        new Run().due("fault", 0).with("best 0", "ofLeft 0 0", "odds 9 9").due("fault", 0);
    }

    /** Calls of a ready object that come to no FAULT, though all of them name some. */
    private static final String[] WITHOUT_FAULT = {"books 0 0 0 22", "books 0 0 0 21", "day 1 1 0 2 0",
        "day 1 1 0 0 1", "sheet 3 0 0", "put 0 0 0", "cell 0 0 0", "copy 0 0 0 0 0", "as 2 1"};
    private static final String[] REFUSED = {"books 4 0 0 22", "books 0 3 0 22", "day 4 0 0 0 0", "day 0 0 0 21 0",
        "sheet 4 0 0", "sheet 0 0 61", "put 4 0 0", "cell 4 0 0", "cell 0 0 3", "copy 4 0 0 0 0", "copy 0 0 4 0 0",
        "as 3 0", "as 0 3"};

    @Holds(promise = 28, to = "The FAULT of the latest call that names one: 0: it came to none, or was refused")
    static void p28_0BehindACallThatNamesFaultsAndCameToNone() {
        for (String call : WITHOUT_FAULT) {
            Boundary.ready().with("put 3 0 0").due("fault", NULL).with(call).due("fault", 0);
        }
    }

    @Holds(promise = 28, to = "The FAULT of the latest call that names one: 0: it came to none, or was refused")
    static void p28_0BehindACallThatNamesFaultsAndWasRefused() {
        for (String call : REFUSED) {
            Boundary.ready().with("put 3 0 0").due("fault", NULL).with(call).due("fault", 0);
        }
        new Run().fill(1, 1, 1, 0).with("put 3 0 0").due("day 1 1 0 1 0", Boundary.STATE).due("fault", 0);
        Boundary.ready().fill(1, 1, 0, 0).with("put 3 0 0").due("day 1 1 0 1 0", OUTSIDE).due("fault", 0);
    }

    @Holds(promise = 28, to = {"Of a call the first that is come to, in the order told",
        "it answers -10 less it (LOST, where a long is answered, as for refusals)", "and changes nothing; fault() tells it"})
    static void p28_eachFaultOfEachCall() {
        String[] nulls = {"books 3 0 0 0", "day 3 0 0 0 0", "put 3 0 0", "cell 3 0 0", "copy 3 0 0 0 0"};
        String[] casts = {"books 0 1 0 0", "day 0 1 0 0 0", "cell 0 0 1", "copy 0 0 1 0 0", "as 1 2"};
        String[] indices = {"books 0 0 23 0", "day 0 0 23 0 0", "put 0 22 0", "cell 0 22 0", "copy 0 23 0 0 0"};
        String[] sizes = {"books 0 0 0 -1", "sheet 0 0 -1"};
        String[][] calls = {nulls, casts, indices, sizes};
        for (int fault = NULL; fault <= SIZE; fault++) {
            for (String call : calls[fault - 1]) {
                Boundary.failed(call, fault);
            }
        }
    }

    @Holds(promise = 28, to = {"The FAULT of the latest call that names one",
        "they change nothing (but fault(), of a call that names FAULTS)"})
    static void p28_staysBehindCallsThatNameNone() {
        String[] calls = {"ofLeft 0 0", "ofLeft 9 0", "ofRight 0 0", "ofRight 0 9", "letters 0 0 5", "letters 2 0 0",
            "price 0 0", "price 0 10", "move 0 1 1", "move 0 0 0", "best 0", "best 4", "ofPair 0 0", "ofPair 9 0",
            "cost 0 0 0", "cost 5 0 0", "by 0", "by 8", "enough", "reading 0 0", "reading 8 0", "back 0", "back 9",
            "kinds 0", "kinds 9", "letterings 0", "letterings 9", "odds 0 0", "odds 5 0", "lose 0", "lose 3", "lose 4",
            "tell 0", "tell 9", "read 0", "read 9", "trace", "fault", "many 0", "many 6"};
        Run run = Boundary.ready().with("sheet 0 0 -1");
        for (String call : calls) {
            run.with(call).due("fault", SIZE);
        }
    }

    @Holds(promise = 28, to = {"The FAULT of the latest call that names one", "1 NULL (there is nothing)",
        "2 CAST (it is of another lane, kind)", "3 INDEX", "4 SIZE (a length below 0)"})
    static void p28_theLatestOfSeveral() {
        Boundary.ready().with("put 3 0 0").due("fault", NULL).with("cell 0 0 1").due("fault", CAST)
            .with("put 0 60 0").due("fault", INDEX).with("sheet 0 0 -1").due("fault", SIZE).with("as 0 2")
            .due("fault", CAST).with("books 0 0 0 -1").due("fault", SIZE).with("day 3 0 0 0 0").due("fault", NULL)
            .with("copy 0 0 0 0 61").due("fault", INDEX).due("fault", INDEX);
    }

    // ---- promise 29

    @Holds(promise = 29, to = "(0 all without BOOKS)")
    static void p29_all0WithoutBooks() {
        new Run().dues("many", 0, 0, 0, 0, 0, 0);
        Run wrong = new Run();
        Boundary.due("a wrong text", wrong.text("b;P1-;D2a,3"), -111);
        wrong.dues("many", 0, 0, 0, 0, 0, 0);
    }

    @Holds(promise = 29, to = "0 LEFT sentences, 1 RIGHT ones, 2 SKIP, 3 JOIN, 4 the BAND, 5 READINGS")
    static void p29_leastAndMostOfAll() {
        Run.ofText("b;P1-,1-").dues("many", 1, 1, 4, 1, 7, 0).with("price 0 0", "price 1 0", "price 2 0")
            .dues("many", 1, 1, 0, 0, 0, 0);
        Run run = Run.ofText("b;P1-;P1-;P1-;P1-;P1-;P1-;P1-,1-,1-,1-,1-,1-,1-,1-").with("price 0 9", "price 1 9");
        for (int k = 0; k < 9; k++) {
            run.with("reading 0 0");
        }
        run.dues("many", 7, 7, 9, 9, 7, 8);
    }

    @Holds(promise = 29, to = "OUTSIDE")
    static void p29_outsideWhat() {
        for (String what : new String[] {"-1", "6", "MIN", "MAX"}) {
            Boundary.refused("many " + what, OUTSIDE);
            Boundary.refused(new Run(), "many " + what, OUTSIDE);
        }
    }
}
