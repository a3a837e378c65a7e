/** Promises 12 and 13: by, enough. */
public final class BandTest {
    private static final Check CHECK = new Check();

    public static void main(String[] args) {
        by();
        enough();
        refused();
        CHECK.end();
    }

    private static void by() {
        BookPairs x = Check.made("b;P4-;L6a;D3-;P9b;P2-;L5c,5-,6a,3-,3-,9b,8-");
        x.price(2, 3);
        CHECK.due("by 0", x.by(0), 29);
        for (int w = 1; w <= 7; w++) {
            CHECK.due("by " + w, x.by(w), 7);
        }
        CHECK.due("the BAND stays", x.many(4), 3);
        // Four and one: two are joined, two are skipped.
        BookPairs y = Check.made("b;P1a;P1a;P1a;P1a,2a");
        CHECK.due("four and one by 2", y.by(2), BookPairs.NONE);
        CHECK.due("four and one by 3", y.by(3), 11);
        y.price(2, 0);
        CHECK.due("the BAND is not looked at", y.by(3), 11);
        BookPairs z = Check.made("b;P9a;P9a;P1b;P1c,1b,1c,9a,9a");
        // By a wide one what is alike is together; by a narrow one it can't be.
        z.price(0, 0);
        z.price(1, 9);
        CHECK.due("narrow", z.by(0), 4 * (8 + 3));
        CHECK.due("wide", z.by(2), 4);
    }

    private static void enough() {
        BookPairs x = Check.made("b;P9a;P9a;P1b;P1c,1b,1c,9a,9a");
        x.price(0, 0);
        x.price(1, 9);
        CHECK.due("both to be skipped", x.enough(), 2);
        x.price(2, 0);
        CHECK.due("the BAND is not looked at", x.enough(), 2);
        CHECK.due("the BAND stays", x.many(4), 0);
        CHECK.due("none skipped", Check.made("b;P1a;P2b,1a,2b").enough(), 0);
        CHECK.due("seven and one", Check.made("b;P1a;P1a;P1a;P1a;P1a;P1a;P1a,1a").enough(), 6);
        CHECK.due("one and seven", Check.made("b;P1a,1a,1a,1a,1a,1a,1a,1a").enough(), 6);
        BookPairs y = Check.made("b;P1a;P1a;P1a;P1a;P1a;P1a;P1a,9b,9b,9b,9b,9b,9b,9b");
        y.price(0, 0);
        y.price(1, 9);
        // Apart each costs 10, together 11: apart at once as well as all of one book first.
        CHECK.due("one by one", y.enough(), 1);
    }

    private static void refused() {
        BookPairs x = new BookPairs();
        CHECK.due("w ahead of state", x.by(8), -2);
        CHECK.due("w below 0", x.by(-1), -2);
        CHECK.due("state", x.by(0), -3);
        CHECK.due("enough: state", x.enough(), -3);
    }
}
