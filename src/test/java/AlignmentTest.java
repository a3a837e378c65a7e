/** Promises 8 to 11: best, ofPair, cost, day. */
public final class AlignmentTest {
    private static final Check CHECK = new Check();
    private static final int NONE = BookPairs.NONE;

    public static void main(String[] args) {
        best();
        bestOfSeveral();
        oneAlone();
        noAlignment();
        ofPair();
        cost();
        costRefused();
        day();
        dayWrong();
        dayRefused();
        CHECK.end();
    }

    private static void bestIs(String name, BookPairs x, int cost, int pairs, int next, int alike) {
        int[] want = {cost, pairs, next, alike};
        for (int what = 0; what < 4; what++) {
            CHECK.due(name + ": best " + what, x.best(what), want[what]);
        }
    }

    private static void sortsAre(String name, BookPairs x, int... sorts) {
        for (int k = 0; k < sorts.length; k++) {
            CHECK.due(name + ": sort of pair " + k, x.ofPair(k, 0), sorts[k]);
        }
        CHECK.due(name + ": no more pairs", x.ofPair(sorts.length, 0), -1);
    }

    private static void best() {
        // 0: 1. 1 2 and 2 1: 4 + 3 and 4 + 4.
        BookPairs x = Check.made("b;P3a,4a");
        bestIs("one and one", x, 1, 1, 15, 1);
        sortsAre("one and one", x, 0);
        CHECK.due("what", x.best(4), -2);
        CHECK.due("what below 0", x.best(-1), -2);
        CHECK.due("what ahead of state", new BookPairs().best(4), -2);
        CHECK.due("state", new BookPairs().best(3), -3);
        // 3: 1. 0 1 and 1 0: 3 and 4 + 3.
        BookPairs y = Check.made("b;P3-;P3-,6-");
        bestIs("two and one", y, 1, 1, 10, 1);
        sortsAre("two and one", y, 3);
        BookPairs z = Check.made("b;P6-,3-,3-");
        bestIs("one and two", z, 1, 1, 10, 1);
        sortsAre("one and two", z, 4);
    }

    private static void bestOfSeveral() {
        // 3: 9. 0 1 and 1 0: 3 and 3.
        BookPairs x = Check.made("b;P3-;P3-,6-");
        x.price(1, 9);
        x.price(0, 0);
        bestIs("joined is dear", x, 6, 2, 6, 2);
        sortsAre("joined is dear", x, 0, 1);
        BookPairs y = Check.made("b;P1a,1b");
        y.price(0, 0);
        // 0: 3. 1 2 and 2 1: 2.
        bestIs("apart", y, 2, 2, 2, 2);
        sortsAre("apart", y, 1, 2);
        y.letters(0, 0, 2);
        // 0: 4; 1 2 and 2 1: 3
        bestIs("apart again", y, 3, 2, 3, 2);
        y.price(0, 1);
        // 0: 4; 5
        bestIs("together", y, 4, 1, 5, 1);
        BookPairs z = Check.made("b;P2a,1b");
        z.price(0, 0);
        z.letters(1, 0, 2);
        // 0: 3; 1 2 and 2 1: 4
        bestIs("three", z, 3, 1, 4, 1);
    }

    private static void oneAlone() {
        BookPairs x = Check.made("b;P3a;P4b,3a,4b");
        x.price(2, 0);
        bestIs("no way but one", x, 0, 2, NONE, 1);
        sortsAre("no way but one", x, 0, 0);
    }

    private static void noAlignment() {
        BookPairs x = Check.made("b;P3a;P4b,3a");
        x.price(2, 0);
        bestIs("none", x, NONE, NONE, NONE, 0);
        sortsAre("none", x);
        x.price(2, 1);
        // 3: 4 + 3 + 1. 0 1: 0 and 4 + 4.
        bestIs("by 1", x, 8, 2, 8, 2);
        sortsAre("by 1", x, 0, 1);
    }

    private static void ofPair() {
        BookPairs x = Check.made("b;P4-;L6a;D3-;P9b;P2-;L5c,5-,6a,3-,3-,9b,8-");
        int[][] want = {{0, 0, 0, 1}, {0, 1, 1, 1}, {4, 2, 2, 1}, {0, 3, 4, 0}, {3, 4, 5, 4}};
        for (int k = 0; k < want.length; k++) {
            for (int what = 0; what < 4; what++) {
                CHECK.due("ofPair " + k + " " + what, x.ofPair(k, what), want[k][what]);
            }
        }
        CHECK.due("no such pair", x.ofPair(5, 9), -1);
        CHECK.due("no such pair below 0", x.ofPair(-1, 0), -1);
        CHECK.due("what", x.ofPair(0, 4), -2);
        CHECK.due("what below 0", x.ofPair(0, -1), -2);
        CHECK.due("without books", new BookPairs().ofPair(0, 0), -1);
    }

    private static void cost() {
        BookPairs x = Check.made("b;P4a;L6a;D3b;P9-,5b,6a,3a,9-");
        CHECK.due("0: lengths, anchors", x.cost(0, 0, 0), 1 + 3);
        CHECK.due("0: anchors alike", x.cost(0, 1, 1), 1);
        CHECK.due("0: double", x.cost(0, 2, 0), 1);
        CHECK.due("0: anchor and none", x.cost(0, 0, 3), 5 + 3);
        CHECK.due("0: none and none", x.cost(0, 3, 3), 0);
        CHECK.due("1", x.cost(1, 2, -77), 4 + 6);
        CHECK.due("2", x.cost(2, 77, 3), 4 + 9);
        CHECK.due("3: two with the same anchor", x.cost(3, 0, 1), 5 + 1);
        CHECK.due("3: two anchors and one", x.cost(3, 1, 1), 7 + 3 + 1);
        CHECK.due("3: one anchor, a dash", x.cost(3, 2, 0), 10 + 1);
        CHECK.due("4: two with the same anchor", x.cost(4, 0, 1), 5 + 1);
        CHECK.due("4: two anchors and one", x.cost(4, 0, 0), 7 + 3 + 1);
        CHECK.due("4: one anchor, a dash", x.cost(4, 0, 2), 8 + 1);
        CHECK.due("4: none and one", x.cost(4, 3, 2), 3 + 3 + 1);
        x.price(0, 9);
        x.price(1, 5);
        CHECK.due("skip", x.cost(1, 0, 0), 13);
        CHECK.due("skip is not joined", x.cost(0, 1, 1), 1);
        CHECK.due("join", x.cost(3, 0, 1), 10);
        CHECK.due("join", x.cost(4, 0, 1), 10);
    }

    private static void costRefused() {
        BookPairs x = Check.made("b;P4a;L6a,5b,6a");
        CHECK.due("sort", x.cost(5, 9, 9), -2);
        CHECK.due("sort below 0", x.cost(-1, 0, 0), -2);
        int far = Integer.MAX_VALUE;
        int[][] unknown = {{0, 2, 0}, {0, 0, 2}, {0, -1, 0}, {0, 0, -1}, {1, 2, 0}, {1, -1, 0}, {2, 0, 2}, {2, 0, -1},
            {3, 1, 0}, {3, 0, 2}, {3, -1, 0}, {3, far, 0}, {4, 0, 1}, {4, 2, 0}, {4, 0, -1}, {4, 0, far}};
        for (int[] pair : unknown) {
            CHECK.due("cost " + pair[0] + " " + pair[1] + " " + pair[2], x.cost(pair[0], pair[1], pair[2]), -1);
        }
        CHECK.due("last ones there", x.cost(3, 0, 1), 5 + 1);
        CHECK.due("last ones there", x.cost(4, 1, 0), 4 + 1 + 3);
        CHECK.due("without books", new BookPairs().cost(1, 0, 0), -1);
    }

    private static int day(BookPairs x, int what, int... cells) {
        Check.fill(x, 1, 2, cells);
        return x.day(1, 2, 0, cells.length / 2, what);
    }

    private static void day() {
        BookPairs x = Check.made("b;P3a,4a");
        CHECK.due("no acts: cost", day(x, 0), 1);
        CHECK.due("no acts: first wrong", day(x, 1), NONE);
        CHECK.due("no acts: pairs", day(x, 2), 1);
        CHECK.due("no acts: next", day(x, 3), 15);
        CHECK.due("no acts: alike", day(x, 4), 1);
        CHECK.due("no acts: left 0", day(x, 10), 1);
        CHECK.due("no acts: left 1", day(x, 11), NONE);
        CHECK.due("letters of left", day(x, 0, 9, 0), 5);
        CHECK.due("letters of right", day(x, 0, 9, 10), 6);
        CHECK.due("skip", day(x, 3, 0, 20), 7);
        CHECK.due("band 0", day(x, 3, 0, 22), NONE);
        CHECK.due("a later act holds", day(x, 0, 9, 0, 4, 0), 0);
        CHECK.due("apart: pairs", day(x, 2, 0, 20, 1, 0, 1, 10, 9, 10, 2, 0, 9, 0, 1, 10), 1);
        CHECK.due("twenty acts", day(x, 0, 1, 0, 1, 0, 1, 0, 1, 0, 1, 0, 1, 0, 1, 0, 1, 0, 1, 0, 1, 0, 1, 0, 1, 0, 1, 0,
            1, 0, 1, 0, 1, 0, 1, 0, 1, 0, 1, 0, 9, 10), 8);
        CHECK.due("nothing is changed", x.best(0), 1);
        CHECK.due("nothing is changed", x.ofLeft(0, 1), 3);
        CHECK.due("nothing is changed", x.many(2), 4);
        BookPairs y = Check.made("b;P3-;P3-,6-");
        CHECK.due("join", day(y, 0, 5, 21), 5);
        CHECK.due("band: none", day(y, 0, 0, 22), NONE);
        CHECK.due("band: no pairs", day(y, 2, 0, 22), NONE);
        CHECK.due("band: no next", day(y, 3, 0, 22), NONE);
        CHECK.due("band: alike", day(y, 4, 0, 22), 0);
        CHECK.due("band: left 0", day(y, 10, 0, 22), 0);
        CHECK.due("band: left 6", day(y, 16, 0, 22), NONE);
        CHECK.due("alike", day(y, 4, 9, 21, 0, 20), 2);
        CHECK.due("left 0 of two alike", day(y, 10, 9, 21, 0, 20), 1);
        CHECK.due("left 1 of two alike", day(y, 11, 9, 21, 0, 20), 0);
        Check.fill(y, 2, 0, 77, 5, 21, 6, 10);
        CHECK.due("cells from i on", y.day(2, 0, 1, 2, 0), 5);
    }

    private static void dayWrong() {
        BookPairs x = Check.made("b;P3a;P3a,4a");
        CHECK.due("no such left", day(x, 0, 1, 2), -100);
        CHECK.due("no such right", day(x, 0, 1, 0, 1, 11), -101);
        CHECK.due("the first of several", day(x, 1, 1, 1, 1, 16, 1, 6), 1);
        CHECK.due("left one that is not there", day(x, 16, 1, 1, 1, 16), -101);
        CHECK.due("alike", day(x, 4, 1, 1, 1, 16), -101);
        CHECK.due("no alignment, too", day(x, 0, 0, 22, 1, 16), -101);
        CHECK.due("the last of twenty", day(x, 1, 1, 0, 1, 0, 1, 0, 1, 0, 1, 0, 1, 0, 1, 0, 1, 0, 1, 0, 1, 0, 1, 0, 1, 0,
            1, 0, 1, 0, 1, 0, 1, 0, 1, 0, 1, 0, 1, 0, 9, 12), 19);
    }

    private static void dayRefused() {
        BookPairs x = new BookPairs();
        Check.fill(x, 1, 1, 99, 99);
        CHECK.due("sheet", x.day(4, 9, 9, 99, 99), -1);
        CHECK.due("sheet below 0", x.day(-1, 0, 0, 0, 0), -1);
        CHECK.due("lane", x.day(0, 3, 0, 0, 0), -2);
        CHECK.due("lane below 0", x.day(0, -1, 0, 0, 0), -2);
        CHECK.due("n", x.day(0, 0, 0, 21, 0), -2);
        CHECK.due("n below 0", x.day(0, 0, 0, -1, 0), -2);
        for (int what : new int[] {-1, 5, 9, 17}) {
            CHECK.due("what " + what, x.day(0, 0, 0, 0, what), -2);
        }
        CHECK.due("no fault", x.fault(), 0);
        CHECK.due("cast", x.day(1, 2, 9, 1, 0), -12);
        CHECK.due("its fault", x.fault(), 2);
        CHECK.due("null", x.day(0, 2, 9, 1, 0), -11);
        CHECK.due("its fault", x.fault(), 1);
        CHECK.due("index", x.day(1, 1, 1, 1, 0), -13);
        CHECK.due("its fault", x.fault(), 3);
        CHECK.due("index behind the end, none taken", x.day(1, 1, 3, 0, 0), -13);
        CHECK.due("index below 0, none taken", x.day(1, 1, -1, 0, 0), -13);
        CHECK.due("index far away", x.day(1, 1, Integer.MAX_VALUE, 20, 0), -13);
        CHECK.due("state", x.day(1, 1, 0, 1, 0), -3);
        CHECK.due("no fault", x.fault(), 0);
        x = Check.made("b;P3a;P3a,4a");
        int[][] outside = {{0, 0}, {10, 0}, {0, 10}, {10, 16}, {1, -1}, {1, 7}, {1, 9}, {1, 17}, {1, 19}, {1, 23},
            {-1, 20}, {10, 20}, {-1, 21}, {10, 21}, {-1, 22}, {8, 22}};
        for (int[] act : outside) {
            CHECK.due("act " + act[0] + " " + act[1], day(x, 1, act), -2);
            CHECK.due("behind a wrong one " + act[0] + " " + act[1], day(x, 1, 1, 6, act[0], act[1]), -2);
        }
        int[][] inside = {{1, 0}, {9, 0}, {1, 10}, {9, 10}, {0, 20}, {9, 20}, {0, 21}, {9, 21}, {0, 22}, {7, 22}};
        for (int[] act : inside) {
            CHECK.due("act " + act[0] + " " + act[1], day(x, 1, act), NONE);
        }
        CHECK.due("at the end, none taken", x.day(1, 2, 2, 0, 1), NONE);
    }
}
