/** Boundary cases of promises 12 and 13: by, enough. */
public final class Boundary3BandTest {
    private static final int OUTSIDE = Boundary.OUTSIDE, STATE = Boundary.STATE, NONE = Boundary.NONE;
    private static final String SEVEN_AND_ONE = "b;P1-;P1-;P1-;P1-;P1-;P1-;P1-,1-";
    private static final String ONE_AND_SEVEN = "b;P1-,1-,1-,1-,1-,1-,1-,1-";
    private static final String UNLIKE_SEVENS = "b;P1a;P1a;P1a;P1a;P1a;P1a;P1a,1b,1b,1b,1b,1b,1b,1b";

    public static void main(String[] args) throws Exception {
        Boundary.runAll(Boundary3BandTest.class);
    }

    // ---- promise 12

    @Holds(promise = 12, to = "The least COST by BAND w (0 .. 7); NONE.")
    static void p12_leastAndWidestBand() {
        // By 0 each with its own: 3 each. By 1 and more all apart: 2 each.
        Run.ofText(UNLIKE_SEVENS).with("price 0 0").dues("by", 21, 14, 14, 14, 14, 14, 14, 14);
    }

    @Holds(promise = 12, to = "The least COST by BAND w (0 .. 7); NONE.")
    static void p12_noneByABandThatIsTooNarrow() {
        // Two are joined with one (2), five are skipped (5 each).
        Run.ofText(SEVEN_AND_ONE).dues("by", NONE, NONE, NONE, NONE, NONE, NONE, 27, 27);
        Run.ofText(ONE_AND_SEVEN).dues("by", NONE, NONE, NONE, NONE, NONE, NONE, 27, 27);
    }

    @Holds(promise = 12, to = "The least COST by BAND w")
    static void p12_theBandItselfIsNotLookedAt_andStays() {
        for (int w = 0; w <= 7; w++) {
            Run run = Run.ofText(SEVEN_AND_ONE).with("price 2 0");
            Boundary.onlyAnswers(run, "by " + w, w < 6 ? NONE : 27);
        }
    }

    @Holds(promise = 12, to = "OUTSIDE; STATE: there are no BOOKS")
    static void p12_outsideW_aheadOfState() {
        for (String w : new String[] {"-1", "8", "MIN", "MAX"}) {
            Boundary.refused("by " + w, OUTSIDE);
            Boundary.refused(new Run(), "by " + w, OUTSIDE);
        }
    }

    @Holds(promise = 12, to = "STATE: there are no BOOKS")
    static void p12_stateWithoutBooks() {
        Boundary.refused(new Run(), "by 0", STATE);
        Boundary.refused(new Run(), "by 7", STATE);
    }

    // ---- promise 13

    @Holds(promise = 13, to = "ENOUGH: the least BAND by which the least COST is as little as by BAND 7.")
    static void p13_leastOfAllBands() {
        Run.ofText("b;P1a,1a").due("enough", 0);
        Run.ofText("b;P1a;P2b;P3c;P4d;P5-;P6a;P7b,1a,2b,3c,4d,5-,6a,7b").due("enough", 0);
    }

    @Holds(promise = 13, to = "ENOUGH: the least BAND by which the least COST is as little as by BAND 7.")
    static void p13_asWideAsTheBooksDiffer() {
        Run.ofText(SEVEN_AND_ONE).due("enough", 6);
        Run.ofText(ONE_AND_SEVEN).due("enough", 6);
        Run.ofText("b;P1-;P1-,1-").due("enough", 1);
    }

    @Holds(promise = 13, to = "ENOUGH: the least BAND by which the least COST is as little as by BAND 7.")
    static void p13_asLittleByAnotherAlignment() {
        // By BAND 7 BEST skips all left ones first; by BAND 1 others cost as little.
        Run.ofText(UNLIKE_SEVENS).with("price 0 0").due("ofPair 6 0", 1).due("enough", 1);
    }

    @Holds(promise = 13, to = "ENOUGH: the least BAND by which the least COST is as little as by BAND 7.")
    static void p13_widerThanTheBooksDiffer() {
        // Four left ones are skipped ahead of those that match, four right ones behind them.
        Run run = Run.ofText("b;P1a;P1a;P1a;P1a;P9b;P9c;P9d,9b,9c,9d,1a,1a,1a,1a").with("price 0 0", "price 1 9");
        run.due("by 7", 8).due("by 4", 8).due("enough", 4);
        Boundary.due("by 3 costs more", run.call("by 3") > 8 ? 1 : 0, 1);
    }

    @Holds(promise = 13, to = "ENOUGH")
    static void p13_theBandItselfIsNotLookedAt_andStays() {
        Boundary.onlyAnswers(Run.ofText(SEVEN_AND_ONE).with("price 2 0"), "enough", 6);
        Boundary.onlyAnswers(Boundary.ready(), "enough", 0);
    }

    @Holds(promise = 13, to = "STATE: there are no BOOKS")
    static void p13_stateWithoutBooks() {
        Boundary.refused(new Run(), "enough", STATE);
    }
}
