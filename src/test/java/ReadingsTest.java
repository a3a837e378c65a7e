/** Promises 14 to 18: reading, back, kinds, letterings, odds. */
public final class ReadingsTest {
    private static final Check CHECK = new Check();
    private static final int NONE = BookPairs.NONE;
    private static final int ALL_KINDS = 7, ALL_LETTERINGS = 1022;

    public static void main(String[] args) {
        reading();
        back();
        kinds();
        letterings();
        odds();
        oddsLost();
        CHECK.end();
    }

    private static void reading() {
        BookPairs x = new BookPairs();
        CHECK.due("state", x.reading(-1, -1), -3);
        x = Check.made("b;P3a,4a");
        int[][] outside = {{-1, 0}, {8, 0}, {0, -1}, {0, 501}, {0, -8}, {0, -10}};
        for (int[] it : outside) {
            CHECK.due("reading " + it[0] + " " + it[1], x.reading(it[0], it[1]), -2);
        }
        CHECK.due("none yet", x.many(5), 0);
        int[][] inside = {{0, 0}, {7, 500}, {3, NONE}, {0, 0}, {1, 1}, {2, 2}, {3, 3}, {4, 4}};
        for (int k = 0; k < 8; k++) {
            CHECK.due("reading " + k, x.reading(inside[k][0], inside[k][1]), k);
            CHECK.due("so many", x.many(5), k + 1);
        }
        CHECK.due("full", x.reading(0, 0), -4);
        CHECK.due("outside ahead of full", x.reading(8, 0), -2);
        CHECK.due("still eight", x.many(5), 8);
    }

    private static void back() {
        BookPairs x = new BookPairs();
        CHECK.due("without books", x.back(0), 0);
        CHECK.due("without books, one", x.back(1), -2);
        x = Check.made("b;P3a,4a");
        x.reading(7, 1);
        x.reading(7, 2);
        x.reading(7, 3);
        CHECK.due("more than there are", x.back(4), -2);
        CHECK.due("below 0", x.back(-1), -2);
        CHECK.due("none", x.back(0), 3);
        CHECK.due("contradictory", x.letterings(0), 0);
        CHECK.due("two", x.back(2), 1);
        CHECK.due("the first is left", x.letterings(0), 1 << 3 | 1 << 5);
        CHECK.due("so many", x.many(5), 1);
        CHECK.due("numbered by how many there are", x.reading(0, 1), 1);
        CHECK.due("all", x.back(2), 0);
        CHECK.due("none holds all", x.letterings(0), ALL_LETTERINGS);
    }

    private static void kinds() {
        BookPairs x = Check.made("b;L3a;P2-,6a,2-");
        CHECK.due("no such", x.kinds(2), -1);
        CHECK.due("no such below 0", x.kinds(-1), -1);
        CHECK.due("without books", new BookPairs().kinds(0), -1);
        CHECK.due("no readings", x.kinds(0), ALL_KINDS);
        // By band 0 one with one: 3, 4 or 6 against 6.
        x.reading(0, 0);
        CHECK.due("it is double", x.kinds(0), 4);
        CHECK.due("the other can't help", x.kinds(1), 0);
        x.back(1);
        x.reading(0, 2);
        CHECK.due("it is long", x.kinds(0), 2);
        CHECK.due("the other one as it is", x.kinds(1), 1);
        x.back(1);
        x.reading(0, 3);
        CHECK.due("it is plain", x.kinds(0), 1);
        CHECK.due("the other one is long", x.kinds(1), 2);
        x.back(1);
        CHECK.due("its kind stays", x.ofLeft(0, 0), 1);
        BookPairs y = Check.made("b;P1-,3-");
        y.reading(0, 1);
        CHECK.due("plain: 2, long: 1, double: 1", y.kinds(0), 6);
        y.price(2, 1);
        y.letters(1, 0, 2);
        CHECK.due("by what is now", y.kinds(0), 1);
        BookPairs z = Check.made("b;P1-;P1-,3-");
        z.reading(0, NONE);
        CHECK.due("no alignment at all", z.kinds(0), ALL_KINDS);
        z.reading(1, NONE);
        CHECK.due("but there is one", z.kinds(0), 0);
    }

    private static void letterings() {
        BookPairs x = Check.made("b;D3a;P2-,6a,2-");
        CHECK.due("no such", x.letterings(2), -1);
        CHECK.due("no such below 0", x.letterings(-1), -1);
        CHECK.due("without books", new BookPairs().letterings(0), -1);
        CHECK.due("no readings", x.letterings(1), ALL_LETTERINGS);
        x.reading(0, 2);
        CHECK.due("2 or 4", x.letterings(0), 1 << 2 | 1 << 4);
        CHECK.due("the other one: 4", x.letterings(1), 1 << 4);
        x.reading(0, 2);
        CHECK.due("told twice", x.letterings(0), 1 << 2 | 1 << 4);
        x.reading(0, 4);
        CHECK.due("told otherwise", x.letterings(0), 0);
        CHECK.due("its letters stay", x.ofLeft(0, 1), 3);
        BookPairs y = Check.made("b;P9-,9-");
        y.reading(0, 0);
        CHECK.due("9", y.letterings(0), 1 << 9);
        y.back(1);
        y.reading(0, 8);
        CHECK.due("1", y.letterings(0), 1 << 1);
    }

    private static void share(BookPairs x, int sort, int upper, int lower) {
        CHECK.due("upper of " + sort, x.odds(sort, 0), upper);
        CHECK.due("lower of " + sort, x.odds(sort, 1), lower);
    }

    private static void odds() {
        BookPairs x = Check.made("b;P4-;L6a;D3-;P9b;P2-;L5c,5-,6a,3-,3-,9b,8-");
        share(x, 0, 3, 5);
        share(x, 1, 0, 1);
        share(x, 3, 1, 5);
        share(x, 4, 1, 5);
        BookPairs y = Check.made("b;P1a;P2a;P9b;P9b,1a,2a");
        y.price(1, 9);
        y.price(0, 0);
        share(y, 0, 1, 2);
        share(y, 1, 1, 2);
        share(y, 2, 0, 1);
        BookPairs z = Check.made("b;P1a;P2a;P3a,1a,2a,3a");
        share(z, 0, 1, 1);
        share(z, 4, 0, 1);
        share(Check.made("b;P1a,1a"), 0, 1, 1);
        share(Check.made("b;P1a,1a"), 3, 0, 1);
    }

    private static void oddsLost() {
        long lost = BookPairs.LOST;
        CHECK.due("LOST", lost, Long.MIN_VALUE);
        CHECK.due("without books", new BookPairs().odds(0, 0), lost);
        BookPairs x = Check.made("b;P1a;P2a,1a");
        CHECK.due("sort", x.odds(5, 0), lost);
        CHECK.due("sort below 0", x.odds(-1, 0), lost);
        CHECK.due("which", x.odds(0, 2), lost);
        CHECK.due("which below 0", x.odds(0, -1), lost);
        x.price(2, 0);
        CHECK.due("no alignment", x.odds(0, 1), lost);
    }
}
