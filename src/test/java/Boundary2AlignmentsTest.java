/** Boundary cases of promises 8 to 11: best, ofPair, cost, day. */
public final class Boundary2AlignmentsTest {
    private static final int UNKNOWN = Boundary.UNKNOWN, OUTSIDE = Boundary.OUTSIDE, STATE = Boundary.STATE;
    private static final int NONE = Boundary.NONE;
    private static final int NULL = Boundary.NULL, CAST = Boundary.CAST, INDEX = Boundary.INDEX;
    private static final String[] TOO_LOW_OR_FAR = {"-1", "MIN", "MAX"};

    public static void main(String[] args) throws Exception {
        Boundary.runAll(Boundary2AlignmentsTest.class);
    }

    /** Seven and seven that cost 3 together and 2 apart: all ways to skip them cost 14. */
    private static Run allApart() {
        return Run.ofText("b;P1a;P1a;P1a;P1a;P1a;P1a;P1a,1b,1b,1b,1b,1b,1b,1b").with("price 0 0");
    }

    /** By BAND 1 there are sorts 0 1 and 1 0, both of which cost 5, and sort 3, which costs 10. */
    private static Run noAlignment() {
        return Run.ofText("b;P1-;P1-,1-").with("price 1 9", "price 2 0");
    }

    // ---- promise 8

    @Holds(promise = 8, to = "NONE: there is no ALIGNMENT, no NEXT one (but of 3)")
    static void p08_noAlignment() {
        noAlignment().dues("best", NONE, NONE, NONE, 0);
    }

    @Holds(promise = 8, to = "3 ALIKE (0: there is no ALIGNMENT)")
    static void p08_alikeIs0WithoutAlignment_1WithOne() {
        noAlignment().due("best 3", 0).with("price 2 1").due("best 3", 2)
            .with("letters 0 1 2", "letters 1 0 2").due("best 3", 1);
    }

    @Holds(promise = 8, to = "NONE: there is no ALIGNMENT, no NEXT one")
    static void p08_noNextOne() {
        Run.ofText("b;P3a;P4b,3a,4b").with("price 2 0").dues("best", 0, 2, NONE, 1);
    }

    @Holds(promise = 8, to = "NEXT: the least COST of all other ALIGNMENTS")
    static void p08_nextIsAsLittle_ifSeveralAreAlike() {
        // Sorts 1 2 and 2 1 cost 2, sort 0 costs 3.
        Run.ofText("b;P1a,1b").with("price 0 0").dues("best", 2, 2, 2, 2);
    }

    @Holds(promise = 8, to = "NEXT: the least COST of all other ALIGNMENTS")
    static void p08_nextIsOfSeveralThatAreAlike_ifBestIsAlone() {
        // Sort 0 costs 0, sorts 1 2 and 2 1 cost 10.
        Run.ofText("b;P1a,1a").dues("best", 0, 1, 10, 1);
    }

    @Holds(promise = 8, to = "ALIKE: how many ALIGNMENTS have the least COST")
    static void p08_mostPairsAndManyAlike() {
        // As many as ways to choose 7 of 14.
        allApart().dues("best", 14, 14, 14, 3432);
    }

    @Holds(promise = 8, to = {"behind each PAIR (and at the beginning) as many LEFT ones as RIGHT ones are taken, "
        + "but for the BAND", "ALIKE: how many ALIGNMENTS have the least COST"})
    static void p08_bandCutsThoseThatAreAlike() {
        // By BAND 1 each left one has its right one beside it: 2 ways each; by BAND 6 only the two outermost are cut.
        allApart().with("price 2 1").dues("best", 14, 14, 14, 128).with("price 2 6").due("best 3", 3430)
            .with("price 2 0").dues("best", 21, 7, NONE, 1);
    }

    @Holds(promise = 8, to = "behind each PAIR (and at the beginning) as many LEFT ones as RIGHT ones are taken, "
        + "but for the BAND")
    static void p08_booksThatDifferByTheBandAndByOneMore() {
        // Two are joined with one, five are skipped.
        Run left = Run.ofText("b;P1-;P1-;P1-;P1-;P1-;P1-;P1-,1-");
        left.with("price 2 6").due("best 0", 27).with("price 2 5").due("best 0", NONE);
        Run right = Run.ofText("b;P1-,1-,1-,1-,1-,1-,1-,1-");
        right.with("price 2 6").due("best 0", 27).with("price 2 5").due("best 0", NONE);
    }

    @Holds(promise = 8, to = "behind each PAIR (and at the beginning) as many LEFT ones as RIGHT ones are taken, "
        + "but for the BAND")
    static void p08_bandOfJoinedOnes() {
        // Joined both ways; what is taken differs by 1 between the two pairs.
        Run run = Run.ofText("b;P9a;P4b;P5b,4a,5a,9b");
        run.with("price 2 1").dues("best", 2, 2, 13, 1).due("ofPair 0 0", 4).due("ofPair 1 0", 3);
        run.with("price 2 0").dues("best", 5 + 1 + 3 + 4, 3, NONE, 1);
    }

    @Holds(promise = 8, to = "of several the one that has in the first PAIR in which they differ the lesser SORT")
    static void p08_lesserSortFirst() {
        allApart().due("ofPair 0 0", 1).due("ofPair 6 0", 1).due("ofPair 7 0", 2).due("ofPair 13 0", 2);
        // 0 and 1 cost as little as 1 and 0.
        noAlignment().with("price 2 1").due("ofPair 0 0", 0).due("ofPair 1 0", 1);
        // 0 and 2 cost as little as 2 and 0, and, by this JOIN, as 4.
        Run.ofText("b;P1-,1-,1-").with("price 1 4").dues("best", 5, 2, 5, 3).due("ofPair 0 0", 0).due("ofPair 1 0", 2);
        // 2 and 0 cost as little as 4.
        Run.ofText("b;P1-,1a,1-").with("price 1 1").dues("best", 5, 2, 5, 2).due("ofPair 0 0", 2).due("ofPair 1 0", 0);
    }

    @Holds(promise = 8, to = "OUTSIDE; STATE: there are no BOOKS")
    static void p08_outsideWhat_aheadOfState() {
        for (String what : new String[] {"-1", "4", "MIN", "MAX"}) {
            Boundary.refused("best " + what, OUTSIDE);
            Boundary.refused(new Run(), "best " + what, OUTSIDE);
        }
    }

    @Holds(promise = 8, to = "STATE: there are no BOOKS")
    static void p08_stateWithoutBooks() {
        for (int what = 0; what <= 3; what++) {
            Boundary.refused(new Run(), "best " + what, STATE);
        }
    }

    // ---- promise 9

    @Holds(promise = 9, to = "Of PAIR k of BEST: 0 its SORT, 1 how many LEFT sentences were taken ahead of it, "
        + "2 how many RIGHT ones, 3 its COST")
    static void p09_firstAndLastOfTheMostPairs() {
        allApart().dues("ofPair 0", 1, 0, 0, 1).dues("ofPair 6", 1, 6, 0, 1).dues("ofPair 7", 2, 7, 0, 1)
            .dues("ofPair 13", 2, 7, 6, 1).due("ofPair 14 0", UNKNOWN);
    }

    @Holds(promise = 9, to = {"PAIRS one behind another that take all sentences of both BOOKS, in their order",
        "COST of it: of all its PAIRS together"})
    static void p09_pairsTakeAllSentences_andCostWhatBestCosts() {
        int[] lefts = {1, 1, 0, 2, 1};
        int[] rights = {1, 0, 1, 1, 2};
        String[] texts = {SEVENS, "b;P1-,1-", "b;D9a;D9b;D9c;P1-;P1-;P1-;L5d,1-,9d", "b;P9a,1a,1b,1-,7a,2-,9-,9-"};
        for (String text : texts) {
            Run run = Run.ofText(text);
            int a = 0;
            int b = 0;
            long cost = 0;
            long pairs = run.call("best 1");
            for (int k = 0; k < pairs; k++) {
                run.due("ofPair " + k + " 1", a).due("ofPair " + k + " 2", b);
                int sort = (int) run.call("ofPair " + k + " 0");
                run.due("cost " + sort + " " + a + " " + b, run.call("ofPair " + k + " 3"));
                cost += run.call("ofPair " + k + " 3");
                a += lefts[sort];
                b += rights[sort];
            }
            run.due("many 0", a).due("many 1", b).due("best 0", cost).due("ofPair " + pairs + " 0", UNKNOWN);
        }
    }

    @Holds(promise = 9, to = "Of PAIR k of BEST")
    static void p09_onlyPair() {
        Run.ofText("b;P9a,1b").dues("ofPair 0", 0, 0, 0, 11).due("ofPair 1 0", UNKNOWN);
    }

    @Holds(promise = 9, to = "UNKNOWN: there is no such PAIR; OUTSIDE")
    static void p09_unknownPair_aheadOfWhat() {
        for (String k : new String[] {"-1", "3", "MIN", "MAX"}) {
            Boundary.refused("ofPair " + k + " 0", UNKNOWN);
        }
        Boundary.refused("ofPair 3 4", UNKNOWN);
    }

    @Holds(promise = 9, to = "UNKNOWN: there is no such PAIR")
    static void p09_unknownWithoutBooksOrAlignment() {
        Boundary.refused(new Run(), "ofPair 0 0", UNKNOWN);
        Boundary.refused(new Run(), "ofPair 0 4", UNKNOWN);
        Boundary.refused(noAlignment(), "ofPair 0 0", UNKNOWN);
    }

    @Holds(promise = 9, to = "OUTSIDE")
    static void p09_outsideWhat() {
        for (String what : new String[] {"-1", "4", "MIN", "MAX"}) {
            Boundary.refused("ofPair 2 " + what, OUTSIDE);
        }
    }

    // ---- promise 10

    @Holds(promise = 10, to = "of SORT 1, 2: SKIP and LENGTH")
    static void p10_skippedFromTheLeastToTheMost() {
        Run run = Run.ofText("b;P1a;D9b,1a,9b");
        run.due("cost 1 0 0", 5).due("cost 1 1 0", 22).due("cost 2 0 0", 5).due("cost 2 0 1", 13);
        run.with("price 0 0", "price 1 9").due("cost 1 0 0", 1).due("cost 2 0 0", 1);
        run.with("price 0 9").due("cost 1 1 0", 27).due("cost 2 0 1", 18);
    }

    @Holds(promise = 10, to = "how much LENGTHS of its LEFT ones and of its RIGHT ones together differ")
    static void p10_lengthsThatDifferByNothingAndByTheMost() {
        Run run = Run.ofText("b;D9a;D9a;P1a;P1a,1a,9a,9a").with("price 1 9", "price 0 9");
        run.due("cost 0 0 0", 17).due("cost 0 2 0", 0).due("cost 0 2 1", 8).due("cost 3 0 0", 35 + 9)
            .due("cost 3 2 1", 7 + 9).due("cost 4 2 1", 17 + 9).due("cost 4 1 1", 0 + 9).due("cost 4 0 0", 8 + 9);
    }

    @Holds(promise = 10, to = "3 more, if the ANCHORS of its LEFT ones and of its RIGHT ones are not the same ones "
        + "(as sets; a dash is none)")
    static void p10_anchorsAsSets() {
        // Lengths of one with one alike, of two with one 1 apart.
        Run run = Run.ofText("b;P1a;P1a;P1-;P1-;P1b;P1a;P1d,1a,1-,1-,1a,1a,1b,1d");
        run.due("cost 0 0 0", 0).due("cost 0 2 1", 0).due("cost 0 0 1", 3).due("cost 0 2 0", 3).due("cost 0 0 5", 3)
            .due("cost 0 6 6", 0).due("cost 0 6 0", 3);
        run.due("cost 3 0 0", 2).due("cost 3 1 0", 2).due("cost 3 2 1", 2).due("cost 3 2 0", 5).due("cost 3 0 1", 5)
            .due("cost 3 4 0", 5).due("cost 3 4 5", 5);
        run.due("cost 4 0 3", 2).due("cost 4 0 2", 2).due("cost 4 2 1", 2).due("cost 4 0 1", 5).due("cost 4 2 0", 5)
            .due("cost 4 0 4", 5).due("cost 4 4 4", 5);
    }

    @Holds(promise = 10, to = "of SORT 3, 4 JOIN more")
    static void p10_joinOfNoneAndOfTheMost() {
        Run run = Run.ofText("b;P1-;P1-,1-,1-").with("price 1 0");
        run.due("cost 0 0 0", 0).due("cost 3 0 0", 1).due("cost 4 0 0", 1);
        run.with("price 1 9").due("cost 0 0 0", 0).due("cost 3 0 0", 10).due("cost 4 0 0", 10).due("cost 1 0 0", 5)
            .due("cost 2 0 0", 5);
    }

    @Holds(promise = 10, to = "(where it takes any; the other one is not looked at)")
    static void p10_theOtherOneIsNotLookedAt() {
        for (String other : new String[] {"-1", "3", "MIN", "MAX"}) {
            Boundary.onlyAnswers(Boundary.ready(), "cost 1 2 " + other, 9);
            Boundary.onlyAnswers(Boundary.ready(), "cost 2 " + other + " 2", 9);
        }
    }

    @Holds(promise = 10, to = "OUTSIDE: SORT; UNKNOWN")
    static void p10_outsideSort_aheadOfUnknown() {
        for (String sort : new String[] {"-1", "5", "MIN", "MAX"}) {
            Boundary.refused("cost " + sort + " 0 0", OUTSIDE);
            Boundary.refused("cost " + sort + " 9 9", OUTSIDE);
            Boundary.refused(new Run(), "cost " + sort + " 0 0", OUTSIDE);
        }
    }

    @Holds(promise = 10, to = "UNKNOWN: not all are there")
    static void p10_unknownFirstOnes() {
        for (String it : new String[] {"-1", "3", "MIN", "MAX"}) {
            for (int sort : new int[] {0, 1, 3, 4}) {
                Boundary.refused("cost " + sort + " " + it + " 0", UNKNOWN);
            }
            for (int sort : new int[] {0, 2, 3, 4}) {
                Boundary.refused("cost " + sort + " 0 " + it, UNKNOWN);
            }
        }
        for (int sort = 0; sort < 5; sort++) {
            Boundary.refused(new Run(), "cost " + sort + " 0 0", UNKNOWN);
        }
    }

    @Holds(promise = 10, to = "UNKNOWN: not all are there")
    static void p10_unknownSecondOnes() {
        Boundary.refused("cost 3 2 0", UNKNOWN);
        Boundary.refused("cost 4 0 2", UNKNOWN);
        Boundary.onlyAnswers(Boundary.ready(), "cost 3 1 2", 5 + 2);
        Boundary.onlyAnswers(Boundary.ready(), "cost 4 2 1", 5 + 2);
        Boundary.refused(Run.ofText("b;P1-,1-"), "cost 3 0 0", UNKNOWN);
        Boundary.refused(Run.ofText("b;P1-,1-"), "cost 4 0 0", UNKNOWN);
    }

    // ---- promise 11: the DAY

    private static final String SEVENS = "b;P4a;L6-;D3b;P9c;P2-;L5d;P7a,5a,6-,3b,3b,9c,8d,7a";

    /** A DAY is held against an object on which its acts are done. */
    private static void dayAsDone(int... acts) {
        Run told = Run.ofText(SEVENS).fill(1, 2, acts);
        Run done = Run.ofText(SEVENS);
        for (int k = 0; k < acts.length; k += 2) {
            int on = acts[k + 1];
            String call = on >= 20 ? "price " + (on - 20) : "letters " + on / 10 + " " + on % 10;
            Boundary.due(call + " is refused", done.call(call + " " + acts[k]) < 0 ? 1 : 0, 0);
        }
        String day = "day 1 2 0 " + acts.length / 2 + " ";
        told.due(day + 0, done.call("best 0")).due(day + 1, NONE).due(day + 2, done.call("best 1"))
            .due(day + 3, done.call("best 2")).due(day + 4, done.call("best 3"));
        for (int a = 0; a < 7; a++) {
            told.due(day + (10 + a), done.call("ofLeft " + a + " 4"));
        }
    }

    @Holds(promise = 11, to = {"LETTERS (1 .. 9) and 0 .. 6: of that LEFT sentence",
        "LETTERS (1 .. 9) and 10 .. 16: of the RIGHT one that is 10 less"})
    static void p11_fewestAndMostLettersOfFirstAndLastOnes() {
        for (int on : new int[] {0, 6, 10, 16}) {
            dayAsDone(1, on);
            dayAsDone(9, on);
        }
        dayAsDone(1, 0, 9, 1, 1, 2, 1, 3, 9, 4, 1, 5, 9, 6, 9, 10, 1, 11, 9, 12, 9, 13, 1, 14, 9, 15, 1, 16);
    }

    @Holds(promise = 11, to = "0 .. 9 and 20: SKIP; 0 .. 9 and 21: JOIN; 0 .. 7 and 22: the BAND")
    static void p11_leastAndHighestPrices() {
        for (int price : new int[] {20, 21, 22}) {
            dayAsDone(0, price);
            dayAsDone(price == 22 ? 7 : 9, price);
        }
        dayAsDone(0, 20, 9, 21, 1, 22);
        dayAsDone(0, 22, 7, 22);
    }

    @Holds(promise = 11, to = "A DAY of n pairs of numbers, that are cells of a SHEET from i on (2 n)")
    static void p11_noneAndTwentyActs() {
        dayAsDone();
        int[] acts = new int[40];
        for (int k = 0; k < 20; k++) {
            acts[2 * k] = 1 + k % 9;
            acts[2 * k + 1] = k % 7 + (k % 2 == 0 ? 10 : 0);
        }
        dayAsDone(acts);
        // The last cells of the longest sheet; those ahead of them are not looked at.
        int[] cells = new int[60];
        System.arraycopy(acts, 0, cells, 20, 40);
        Run run = Run.ofText(SEVENS).fill(1, 2, acts).fill(2, 0, cells);
        run.due("day 2 0 20 20 0", run.call("day 1 2 0 20 0")).due("day 2 0 0 1 0", OUTSIDE);
    }

    @Holds(promise = 11, to = "from how all is now (nothing is changed)")
    static void p11_changesNothing() {
        Boundary.onlyAnswers(Boundary.ready(), "day 1 1 0 2 1", NONE);
        // 9 and 1 in place of 3 and 4.
        Boundary.onlyAnswers(Boundary.ready(), "day 1 1 0 2 0", 6 + 3);
        Boundary.onlyAnswers(Boundary.ready(), "day 1 1 0 0 0", 0);
        Boundary.ready().due("day 1 1 0 2 0", 9).with("letters 0 0 9").due("day 1 1 0 2 0", 9).due("best 0", 6);
    }

    @Holds(promise = 11, to = {"the least COST then (what 0; NONE)", "how many PAIRS BEST has then (2; NONE)",
        "NEXT then (3; NONE)", "ALIKE then (4)"})
    static void p11_withoutAlignmentThen() {
        Run run = Run.ofText("b;P1-;P1-,1-").fill(1, 1, 0, 22);
        run.due("day 1 1 0 1 0", NONE).due("day 1 1 0 1 2", NONE).due("day 1 1 0 1 3", NONE).due("day 1 1 0 1 4", 0);
        run.due("best 0", 2);
    }

    @Holds(promise = 11, to = "NEXT then (3; NONE)")
    static void p11_noNextOneThen() {
        Run.ofText("b;P1-,2-").fill(1, 1, 0, 22).due("day 1 1 0 1 0", 1).due("day 1 1 0 1 3", NONE)
            .due("day 1 1 0 1 4", 1).due("day 1 1 0 0 3", 11);
    }

    @Holds(promise = 11, to = "RIGHT sentences in one PAIR with LEFT one a then, as a set (10 and a; NONE: there is no "
        + "such sentence)")
    static void p11_setOfALeftOne_andOfNone() {
        Run run = Run.ofText("b;P9a;P1b,4a,5a").fill(1, 1, 9, 21, 0, 20);
        // Joined: 1, and 5 of the skipped one; then 1 alone costs 1, one with one 4 + 3.
        run.due("day 1 1 0 0 10", 3).due("day 1 1 0 0 11", 0).due("day 1 1 0 0 12", NONE).due("day 1 1 0 0 16", NONE);
        run.due("day 1 1 0 2 10", 2).due("day 1 1 0 2 11", 0).due("day 1 1 0 2 12", NONE);
    }

    @Holds(promise = 11, to = "as a set (10 and a; NONE: there is no such sentence)")
    static void p11_setIs0WithoutAlignmentThen() {
        Run run = Run.ofText("b;P1-;P1-,1-").fill(1, 1, 0, 22);
        run.due("day 1 1 0 1 10", 0).due("day 1 1 0 1 11", 0).due("day 1 1 0 1 12", NONE);
    }

    @Holds(promise = 11, to = {"FIRST WRONG: the first act that can't be (there is no such sentence)",
        "its FIRST WRONG (1; NONE)"})
    static void p11_firstWrong_behindTheLastSentence() {
        for (int on : new int[] {3, 6, 13, 16}) {
            Boundary.onlyAnswers(Boundary.ready().fill(1, 1, 5, on), "day 1 1 0 1 1", 0);
        }
        for (int on : new int[] {0, 2, 10, 12}) {
            Boundary.onlyAnswers(Boundary.ready().fill(1, 1, 5, on), "day 1 1 0 1 1", NONE);
        }
    }

    @Holds(promise = 11, to = "FIRST WRONG: the first act that can't be")
    static void p11_firstWrong_ofSeveralAndTheTwentieth() {
        Boundary.ready().fill(1, 1, 5, 2, 5, 13, 5, 3).due("day 1 1 0 3 1", 1).due("day 1 1 0 1 1", NONE)
            .due("day 1 1 2 2 1", 0).due("day 1 1 4 1 1", 0);
        int[] acts = new int[40];
        for (int k = 0; k < 20; k++) {
            acts[2 * k] = 5;
            acts[2 * k + 1] = k == 19 ? 13 : k % 3;
        }
        Boundary.ready().fill(1, 1, acts).due("day 1 1 0 20 1", 19).due("day 1 1 0 20 0", -119)
            .due("day 1 1 0 19 1", NONE);
    }

    @Holds(promise = 11, to = "of one with a FIRST WRONG: -100 less that (but what 1)")
    static void p11_firstWrong_isToldByEachWhat() {
        for (int what : new int[] {0, 2, 3, 4, 10, 12, 13, 16}) {
            Boundary.onlyAnswers(Boundary.ready().fill(1, 1, 1, 0, 5, 3), "day 1 1 0 2 " + what, -101);
        }
        // There is no ALIGNMENT then, either.
        Run run = Run.ofText("b;P1-;P1-,1-").fill(1, 1, 0, 22, 1, 11);
        run.due("day 1 1 0 2 0", -101).due("day 1 1 0 2 4", -101).due("day 1 1 0 2 10", -101);
    }

    // ---- promise 11: REFUSALS, FAULTS

    @Holds(promise = 11, to = "UNKNOWN: SHEET; OUTSIDE")
    static void p11_unknownSheet_aheadOfAll() {
        for (String sheet : new String[] {"-1", "4", "MIN", "MAX"}) {
            Boundary.refused("day " + sheet + " 1 0 1 0", UNKNOWN);
            Boundary.refused(new Run(), "day " + sheet + " 3 -1 21 5", UNKNOWN);
        }
    }

    @Holds(promise = 11, to = "OUTSIDE: lane, n (0 .. 20), what (0 .. 4, 10 .. 16); FAULTS")
    static void p11_outsideLane_aheadOfFaults() {
        for (String lane : new String[] {"-1", "3", "MIN", "MAX"}) {
            Boundary.refused("day 1 " + lane + " 0 1 0", OUTSIDE);
            Boundary.refused("day 3 " + lane + " -1 1 0", OUTSIDE);
        }
    }

    @Holds(promise = 11, to = "n (0 .. 20)")
    static void p11_outsideN_aheadOfFaults() {
        for (String n : new String[] {"-1", "21", "MIN", "MAX", "1073741824"}) {
            Boundary.refused("day 1 1 0 " + n + " 0", OUTSIDE);
            Boundary.refused("day 1 0 0 " + n + " 0", OUTSIDE);
            Boundary.refused("day 3 0 0 " + n + " 0", OUTSIDE);
        }
    }

    @Holds(promise = 11, to = "what (0 .. 4, 10 .. 16)")
    static void p11_outsideWhat_aheadOfFaults() {
        for (String what : new String[] {"-1", "5", "9", "17", "MIN", "MAX"}) {
            Boundary.refused("day 1 1 0 1 " + what, OUTSIDE);
            Boundary.refused("day 1 0 0 1 " + what, OUTSIDE);
            Boundary.refused("day 3 0 0 1 " + what, OUTSIDE);
        }
    }

    @Holds(promise = 11, to = "FAULTS CAST, NULL, INDEX")
    static void p11_castOfAnotherLane_aheadOfIndex() {
        Boundary.failed("day 1 0 0 1 0", CAST);
        Boundary.failed("day 1 2 0 0 0", CAST);
        Boundary.failed("day 2 1 -1 20 0", CAST);
    }

    @Holds(promise = 11, to = "FAULTS CAST, NULL, INDEX")
    static void p11_nothingIsNull_aheadOfIndex() {
        for (int lane = 0; lane < 3; lane++) {
            Boundary.failed("day 3 " + lane + " 0 0 0", NULL);
            Boundary.failed("day 3 " + lane + " -1 20 0", NULL);
        }
    }

    @Holds(promise = 11, to = {"FAULTS CAST, NULL, INDEX", "cells of a SHEET from i on (2 n)"})
    static void p11_indexOfCellsThatAreNotThere() {
        Boundary.failed("day 1 1 0 3 0", INDEX);
        Boundary.failed("day 1 1 1 2 0", INDEX);
        Boundary.failed("day 1 1 3 1 0", INDEX);
        Boundary.failed("day 1 1 4 1 0", INDEX);
        Boundary.failed("day 1 1 -1 1 0", INDEX);
        Boundary.failed("day 2 2 0 2 0", INDEX);
        Boundary.failed("day 1 1 MAX 20 0", INDEX);
        Boundary.failed("day 1 1 MIN 20 0", INDEX);
    }

    @Holds(promise = 11, to = "also where i is not 0 .. how many there are, if none of them is taken, too")
    static void p11_indexOfNoCells() {
        Boundary.failed("day 1 1 5 0 0", INDEX);
        for (String i : TOO_LOW_OR_FAR) {
            Boundary.failed("day 1 1 " + i + " 0 0", INDEX);
        }
        Boundary.onlyAnswers(Boundary.ready(), "day 1 1 4 0 1", NONE);
        Boundary.onlyAnswers(Boundary.ready().with("sheet 1 1 0"), "day 1 1 0 0 1", NONE);
    }

    @Holds(promise = 11, to = "FAULTS CAST, NULL, INDEX; STATE: there are no BOOKS; pair by pair OUTSIDE")
    static void p11_stateWithoutBooks_behindFaults_aheadOfPairs() {
        Run run = new Run().fill(1, 1, 99, 99);
        Boundary.refused(run, "day 1 1 0 1 0", STATE);
        Boundary.refused(new Run().fill(1, 1, 1, 0), "day 1 1 0 1 1", STATE);
        Boundary.refused(new Run().fill(1, 1, 1, 0), "day 1 1 0 0 16", STATE);
        Boundary.failed(new Run().fill(1, 1, 1, 0), "day 1 0 0 1 0", CAST);
        Boundary.failed(new Run(), "day 1 1 0 1 0", NULL);
        Boundary.failed(new Run().fill(1, 1, 1, 0), "day 1 1 1 1 0", INDEX);
    }

    private static void outsideAct(int first, int second) {
        for (int what : new int[] {0, 1, 16}) {
            Boundary.refused(Boundary.ready().fill(1, 2, first, second), "day 1 2 0 1 " + what, OUTSIDE);
        }
    }

    @Holds(promise = 11, to = "pair by pair OUTSIDE: the second is not 0 .. 6, 10 .. 16, 20 .. 22")
    static void p11_outsideSecond() {
        for (int second : new int[] {-1, 7, 8, 9, 17, 18, 19, 23, Integer.MIN_VALUE, Integer.MAX_VALUE}) {
            outsideAct(1, second);
        }
    }

    @Holds(promise = 11, to = "the first is not as told with it")
    static void p11_outsideFirst() {
        for (int first : new int[] {-1, 10, Integer.MIN_VALUE, Integer.MAX_VALUE}) {
            for (int second : new int[] {0, 6, 10, 16, 20, 21, 22}) {
                outsideAct(first, second);
            }
        }
        for (int second : new int[] {0, 6, 10, 16}) {
            outsideAct(0, second);
        }
        outsideAct(8, 22);
    }

    @Holds(promise = 11, to = "pair by pair OUTSIDE")
    static void p11_outsidePair_behindGoodOnesAndBehindAFirstWrong() {
        Boundary.refused(Boundary.ready().fill(1, 1, 1, 0, 1, 10, 8, 22), "day 1 1 0 3 0", OUTSIDE);
        Boundary.refused(Boundary.ready().fill(1, 1, 1, 6, 0, 0), "day 1 1 0 2 1", OUTSIDE);
        // What is behind the n pairs is not looked at.
        Boundary.onlyAnswers(Boundary.ready().fill(1, 1, 1, 6, 0, 0), "day 1 1 0 1 1", 0);
    }
}
