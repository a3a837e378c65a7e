/** Boundary cases of promises 14 to 18: reading, back, kinds, letterings, odds. */
public final class Boundary4CostsTest {
    private static final int UNKNOWN = Boundary.UNKNOWN, OUTSIDE = Boundary.OUTSIDE, STATE = Boundary.STATE;
    private static final int FULL = Boundary.FULL, NONE = Boundary.NONE;
    private static final int ALL_KINDS = 7, ALL_LETTERINGS = 1022;
    private static final String[] NO_SUCH_OF_THREE = {"-1", "3", "MIN", "MAX"};

    public static void main(String[] args) throws Exception {
        Boundary.runAll(Boundary4CostsTest.class);
    }

    /** As many READINGS as there can be, of books of one and one. */
    private static Run full() {
        Run run = Run.ofText("b;P3-,5-");
        for (int k = 0; k < 8; k++) {
            run.due("reading " + k + " 2", k);
        }
        return run;
    }

    // ---- promise 14

    @Holds(promise = 14, to = {"A READING: its number", "READINGS, 8 at most, numbered by how many there are"})
    static void p14_eightAreNumberedFrom0On() {
        full().due("many 5", 8);
    }

    @Holds(promise = 14, to = "numbered by how many there are")
    static void p14_numbersAreGivenAnewBehindBack() {
        full().with("back 3").due("reading 0 2", 5).due("reading 0 2", 6).with("back 7").due("reading 0 2", 0);
    }

    @Holds(promise = 14, to = "OUTSIDE: w (0 .. 7), c (0 .. 500, NONE)")
    static void p14_leastAndHighestNumbers() {
        Run.ofText("b;P3-,5-").due("reading 0 0", 0).due("reading 7 500", 1).due("reading 0 -9", 2)
            .due("reading 7 -9", 3).due("many 5", 4);
    }

    @Holds(promise = 14, to = "STATE: there are no BOOKS; OUTSIDE")
    static void p14_stateWithoutBooks_aheadOfNumbers() {
        Boundary.refused(new Run(), "reading 0 0", STATE);
        Boundary.refused(new Run(), "reading 8 0", STATE);
        Boundary.refused(new Run(), "reading 0 501", STATE);
    }

    @Holds(promise = 14, to = "OUTSIDE: w (0 .. 7), c (0 .. 500, NONE)")
    static void p14_outsideW() {
        for (String w : new String[] {"-1", "8", "MIN", "MAX"}) {
            Boundary.refused("reading " + w + " 0", OUTSIDE);
        }
    }

    @Holds(promise = 14, to = "c (0 .. 500, NONE)")
    static void p14_outsideC() {
        for (String c : new String[] {"-1", "501", "-8", "-10", "MIN", "MAX"}) {
            Boundary.refused("reading 0 " + c, OUTSIDE);
        }
    }

    @Holds(promise = 14, to = {"FULL", "READINGS, 8 at most"})
    static void p14_fullByTheNinth_behindNumbers() {
        Boundary.refused(full(), "reading 0 2", FULL);
        Boundary.refused(full(), "reading 0 -9", FULL);
        Boundary.refused(full(), "reading 8 2", OUTSIDE);
        Boundary.refused(full(), "reading 0 501", OUTSIDE);
        full().due("reading 0 2", FULL).due("back 1", 7).due("reading 0 2", 7).due("reading 0 2", FULL);
    }

    // ---- promise 15

    @Holds(promise = 15, to = "The last n READINGS (0 .. as many as there are) are taken back: how many are left.")
    static void p15_noneOneAndAll() {
        full().due("back 0", 8).due("many 5", 8).due("back 1", 7).due("back 7", 0).due("back 0", 0).due("many 5", 0);
        full().due("back 8", 0).due("letterings 0", ALL_LETTERINGS);
    }

    @Holds(promise = 15, to = "The last n READINGS")
    static void p15_theLastOnesAreTakenBack_theFirstStay() {
        Run run = Run.ofText("b;P3-,5-").with("reading 0 2", "reading 0 3", "reading 0 4");
        run.due("letterings 0", 0).due("back 2", 1).due("letterings 0", 1 << 3 | 1 << 7);
    }

    @Holds(promise = 15, to = "OUTSIDE")
    static void p15_outsideN() {
        for (String n : new String[] {"-1", "2", "MIN", "MAX"}) {
            Boundary.refused("back " + n, OUTSIDE);
        }
        Boundary.refused(full(), "back 9", OUTSIDE);
    }

    @Holds(promise = 15, to = "(0 .. as many as there are)")
    static void p15_withoutBooks() {
        Boundary.onlyAnswers(new Run(), "back 0", 0);
        Boundary.refused(new Run(), "back 1", OUTSIDE);
    }

    // ---- promise 16

    @Holds(promise = 16, to = {"KINDS, as a set.", "by which all READINGS are so"})
    static void p16_allKindsWithoutReadings_noneByThoseThatContradict() {
        Run run = Run.ofText("b;P3-,5-").due("kinds 0", ALL_KINDS).with("reading 0 0").due("kinds 0", 0);
        run.with("back 1").due("kinds 0", ALL_KINDS);
    }

    @Holds(promise = 16, to = "KINDS of a LEFT sentence: 0 .. 2")
    static void p16_eachKindAlone() {
        // 3, 4, 6 against 9.
        String[] readings = {"reading 0 6", "reading 0 5", "reading 0 3"};
        for (int kind = 0; kind < 3; kind++) {
            Boundary.onlyAnswers(Run.ofText("b;P3-,9-").with(readings[kind]), "kinds 0", 1 << kind);
        }
    }

    @Holds(promise = 16, to = "in place of what it is alone, by which all READINGS are so")
    static void p16_theOthersStayAsTheyAre() {
        // By BAND 0 each with its own: 4 and 3 with 4 and 3, if the first one is long.
        Run run = Run.ofText("b;P3-;P3-,4-,3-").with("reading 0 0");
        run.due("kinds 0", 2).due("kinds 1", 0);
    }

    @Holds(promise = 16, to = "by which all READINGS are so")
    static void p16_theEighthReadingCounts() {
        Run run = Run.ofText("b;P3-,5-");
        for (int k = 0; k < 7; k++) {
            run.with("reading 0 2");
        }
        run.due("kinds 0", 1).with("reading 0 1").due("kinds 0", 0).with("back 1", "reading 0 2").due("kinds 0", 1);
    }

    @Holds(promise = 16, to = "by BAND w the least COST is c (NONE: there is no ALIGNMENT)")
    static void p16_readingsOfNoAlignment() {
        Run.ofText("b;P1-;P1-,3-").with("reading 0 -9").due("kinds 0", ALL_KINDS).due("kinds 1", ALL_KINDS)
            .with("reading 1 -9").due("kinds 0", 0);
        Run.ofText("b;P1-,3-").with("reading 0 -9").due("kinds 0", 0);
    }

    @Holds(promise = 16, to = "by BAND w the least COST is c")
    static void p16_byTheReadingsBandAndByPricesAsTheyAreNow() {
        Run run = Run.ofText("b;P1a,3b").with("reading 0 5", "price 2 0").due("kinds 0", 1);
        // By BAND 0 skipping can't be; by BAND 1 it costs 4 or 5 apart.
        run.with("price 0 0").due("kinds 0", 1).with("reading 1 4").due("kinds 0", 1).with("back 2", "reading 1 4");
        run.due("kinds 0", 1 | 2 | 4).with("price 0 9").due("kinds 0", 2 | 4);
    }

    @Holds(promise = 16, to = "UNKNOWN")
    static void p16_unknownSentence() {
        for (String a : NO_SUCH_OF_THREE) {
            Boundary.refused("kinds " + a, UNKNOWN);
        }
        Boundary.refused(new Run(), "kinds 0", UNKNOWN);
        Boundary.refused(Run.ofText("b;P1-,1-,1-"), "kinds 1", UNKNOWN);
    }

    // ---- promise 17

    @Holds(promise = 17, to = {"LETTERINGS, as a set.", "LETTERINGS of it: 1 .. 9"})
    static void p17_allWithoutReadings_noneByThoseThatContradict() {
        Run run = Run.ofText("b;P3-,5-").due("letterings 0", ALL_LETTERINGS).with("reading 0 5");
        run.due("letterings 0", 0).with("back 1").due("letterings 0", ALL_LETTERINGS);
    }

    @Holds(promise = 17, to = "LETTERINGS of it: 1 .. 9")
    static void p17_eachLetteringAlone() {
        for (int v = 1; v <= 9; v++) {
            Run run = Run.ofText("b;P5-,9-").with("reading 0 " + (9 - v));
            Boundary.onlyAnswers(run, "letterings 0", 1 << v);
        }
        Run.ofText("b;P5-,1-").with("reading 0 8").due("letterings 0", 1 << 9);
    }

    @Holds(promise = 17, to = "in place of what it is alone, by which all READINGS are so")
    static void p17_itsKindAndTheOthersStayAsTheyAre() {
        // Twice 4 and twice 1 differ by 3 from 5.
        Run.ofText("b;D9-,5-").with("reading 0 3").due("letterings 0", 1 << 1 | 1 << 4);
        Run.ofText("b;L9-,5-").with("reading 0 3").due("letterings 0", 1 << 1 | 1 << 7);
        Run.ofText("b;P3-;P3-,4-,3-").with("reading 0 0").due("letterings 0", 1 << 4).due("letterings 1", 0);
    }

    @Holds(promise = 17, to = "by which all READINGS are so")
    static void p17_theEighthReadingCounts() {
        Run run = Run.ofText("b;P3-,5-");
        for (int k = 0; k < 7; k++) {
            run.with("reading 0 2");
        }
        run.due("letterings 0", 1 << 3 | 1 << 7).with("reading 0 1").due("letterings 0", 0);
    }

    @Holds(promise = 17, to = "by BAND w the least COST is c (NONE: there is no ALIGNMENT)")
    static void p17_readingsOfNoAlignment() {
        Run.ofText("b;P1-;P1-,3-").with("reading 0 -9").due("letterings 1", ALL_LETTERINGS).with("reading 1 -9")
            .due("letterings 1", 0);
    }

    @Holds(promise = 17, to = "UNKNOWN")
    static void p17_unknownSentence() {
        for (String a : NO_SUCH_OF_THREE) {
            Boundary.refused("letterings " + a, UNKNOWN);
        }
        Boundary.refused(new Run(), "letterings 0", UNKNOWN);
        Boundary.refused(Run.ofText("b;P1-,1-,1-"), "letterings 1", UNKNOWN);
    }

    // ---- promise 18

    private static void shares(Run run, int... uppersAndLowers) {
        for (int sort = 0; sort < 5; sort++) {
            run.dues("odds " + sort, uppersAndLowers[2 * sort], uppersAndLowers[2 * sort + 1]);
        }
    }

    @Holds(promise = 18, to = {"ODDS of a SORT", "Shares are told as upper and lower number (above 0) in least terms."})
    static void p18_noneAndAllOfThem() {
        shares(Run.ofText("b;P1a,1a"), 1, 1, 0, 1, 0, 1, 0, 1, 0, 1);
        shares(Run.ofText("b;P1a;P2b;P3c,1a,2b,3c"), 1, 1, 0, 1, 0, 1, 0, 1, 0, 1);
        shares(Run.ofText("b;P3-;P3-,6-"), 0, 1, 0, 1, 0, 1, 1, 1, 0, 1);
        shares(Run.ofText("b;P6-,3-,3-"), 0, 1, 0, 1, 0, 1, 0, 1, 1, 1);
    }

    @Holds(promise = 18, to = "Shares are told as upper and lower number (above 0) in least terms.")
    static void p18_inLeastTerms() {
        // Seven of fourteen each.
        shares(Run.ofText("b;P1a;P1a;P1a;P1a;P1a;P1a;P1a,1b,1b,1b,1b,1b,1b,1b").with("price 0 0"),
            0, 1, 1, 2, 1, 2, 0, 1, 0, 1);
        // Four of six, two of six.
        shares(Run.ofText("b;P1a;P2b;P3c;P4d;P9-;P9-,1a,2b,3c,4d").with("price 0 0"), 2, 3, 1, 3, 0, 1, 0, 1, 0, 1);
        // Three of five, one of five, one of five.
        shares(Run.ofText("b;P4-;L6a;D3-;P9b;P2-;L5c,5-,6a,3-,3-,9b,8-"), 3, 5, 0, 1, 0, 1, 1, 5, 1, 5);
    }

    @Holds(promise = 18, to = "ODDS of a SORT (0 .. 4; which 0 the upper, 1 the lower number). LOST: OUTSIDE")
    static void p18_lostByNumbersOutside() {
        for (String sort : new String[] {"-1", "5", "MIN", "MAX"}) {
            Boundary.refused("odds " + sort + " 0", OUTSIDE);
            Boundary.refused("odds " + sort + " 1", OUTSIDE);
        }
        for (String which : new String[] {"-1", "2", "MIN", "MAX"}) {
            Boundary.refused("odds 0 " + which, OUTSIDE);
        }
    }

    @Holds(promise = 18, to = "STATE: there is no ALIGNMENT")
    static void p18_lostWithoutAlignmentOrBooks() {
        for (int sort = 0; sort < 5; sort++) {
            Boundary.refused(Run.ofText("b;P1-;P1-,1-").with("price 2 0"), "odds " + sort + " 1", STATE);
            Boundary.refused(new Run(), "odds " + sort + " 1", STATE);
        }
    }
}
