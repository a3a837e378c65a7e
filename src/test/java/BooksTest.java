/** Promises 1 to 7: a new object, books, ofLeft, ofRight, letters, price, move. */
public final class BooksTest {
    private static final Check CHECK = new Check();
    private static final String SEVEN_LEFT = "b;P1a;L2b;D3c;P4d;L5-;D6a;P7b";
    private static final String SEVEN_RIGHT = ",9a,8b,7c,6d,5-,4a,3b";

    public static void main(String[] args) {
        newObject();
        takenTexts();
        firstFaults();
        faultsOfBooks();
        refusedTextChangesNothing();
        takenTextMakesAllAnew();
        ofLeft();
        ofRight();
        letters();
        price();
        move();
        CHECK.end();
    }

    private static void newObject() {
        BookPairs x = new BookPairs();
        for (int what = 0; what <= 5; what++) {
            CHECK.due("new many " + what, x.many(what), 0);
        }
        for (int k = 0; k < 4; k++) {
            CHECK.due("new lose " + k, x.lose(k), 0);
        }
        CHECK.due("new fault", x.fault(), 0);
        CHECK.due("new trace", x.trace(), 0);
        CHECK.due("new ofLeft", x.ofLeft(0, 0), -1);
        CHECK.due("new ofRight", x.ofRight(0, 0), -1);
        CHECK.due("new best", x.best(0), -3);
        CHECK.due("new ofPair", x.ofPair(0, 0), -1);
    }

    private static void takenTexts() {
        CHECK.due("least text", Check.books(new BookPairs(), "b;P1-,1-"), 2);
        BookPairs x = new BookPairs();
        CHECK.due("longest text", Check.books(x, SEVEN_LEFT + SEVEN_RIGHT), 14);
        int[] kinds = {0, 1, 2, 0, 1, 2, 0};
        int[] anchors = {0, 1, 2, 3, 4, 0, 1};
        for (int k = 0; k < 7; k++) {
            CHECK.due("kind of " + k, x.ofLeft(k, 0), kinds[k]);
            CHECK.due("letters of " + k, x.ofLeft(k, 1), k + 1);
            CHECK.due("anchor of " + k, x.ofLeft(k, 3), anchors[k]);
            CHECK.due("letters of right " + k, x.ofRight(k, 0), 9 - k);
            CHECK.due("anchor of right " + k, x.ofRight(k, 1), anchors[k]);
        }
        for (int lane = 0; lane < 3; lane++) {
            Check.fill(x, 2, lane, Check.codes("xx" + "b;D9d,1-" + "x"));
            CHECK.due("text amid a row of lane " + lane, x.books(2, lane, 2, 8), 2);
            CHECK.due("its left one's letters", x.ofLeft(0, 1), 9);
        }
        Check.fill(x, 3, 0, Check.codes("b;P1-,1-"));
        x.put(3, 0, 98 + 256);
        CHECK.due("a code cut to a byte", x.books(3, 0, 0, 8), 2);
        Check.fill(x, 3, 1, Check.codes("b;P1-,1-"));
        x.put(3, 0, 98 + 256);
        CHECK.due("a code not cut to a byte", x.books(3, 1, 0, 8), -100);
    }

    private static void fault(String text, int place) {
        CHECK.due("first fault of " + text, Check.books(new BookPairs(), text), -100 - place);
    }

    private static void firstFaults() {
        String whole = "b;P1a;L2-,3b,4-";
        for (int n = 0; n < whole.length(); n++) {
            boolean taken = n == 12;
            int due = taken ? 3 : -100 - n;
            CHECK.due("the first " + n + " of " + whole, Check.books(new BookPairs(), whole.substring(0, n)), due);
            fault(whole.substring(0, n) + "x" + whole.substring(n + 1), n);
            fault(whole.substring(0, n) + "x", n);
        }
        fault(whole + "x", 15);
        fault(whole + ";", 15);
        fault("b,1-", 1);
        fault("bb;P1-,1-", 1);
        fault("b;p1-,1-", 2);
        fault("b;P0-,1-", 3);
        fault("b;P:-,1-", 3);
        fault("b;P1e,1-", 4);
        fault("b;P1`,1-", 4);
        fault("b;P1-,0-", 6);
        fault("b;P1-,1e", 7);
        fault("b;P1-,P1-", 6);
        fault("b;P1-;,1-", 6);
        fault("b;P1-,1-;P1-", 8);
        fault("b;P11-,1-", 4);
        fault(SEVEN_LEFT + ";P1-" + SEVEN_RIGHT, SEVEN_LEFT.length());
        fault(SEVEN_LEFT + ";", SEVEN_LEFT.length());
        fault(SEVEN_LEFT, SEVEN_LEFT.length());
        fault(SEVEN_LEFT + SEVEN_RIGHT + ",", 50);
        fault(SEVEN_LEFT + SEVEN_RIGHT + ",1-", 50);
        fault("b;P1-" + SEVEN_RIGHT + ",1-", 26);
        BookPairs x = new BookPairs();
        Check.fill(x, 0, 2, 98, -59, 80);
        CHECK.due("a code below 0", x.books(0, 2, 0, 3), -101);
        Check.fill(x, 0, 2, 98, 59, 80, Integer.MIN_VALUE);
        CHECK.due("a code far below 0", x.books(0, 2, 0, 4), -103);
    }

    private static void faultsOfBooks() {
        BookPairs x = new BookPairs();
        Check.fill(x, 1, 1, Check.codes("b;P1-,1-"));
        CHECK.due("no such sheet", x.books(4, 9, -1, -1), -1);
        CHECK.due("no such sheet below 0", x.books(-1, 0, 0, 0), -1);
        CHECK.due("no such lane", x.books(0, 3, -1, -1), -2);
        CHECK.due("no such lane below 0", x.books(1, -1, 0, 0), -2);
        CHECK.due("fault behind a refusal", x.fault(), 0);
        CHECK.due("another lane", x.books(1, 0, -1, -1), -12);
        CHECK.due("its fault", x.fault(), 2);
        CHECK.due("nothing", x.books(0, 0, -1, -1), -11);
        CHECK.due("its fault", x.fault(), 1);
        CHECK.due("n below 0", x.books(1, 1, -1, -1), -14);
        CHECK.due("its fault", x.fault(), 4);
        CHECK.due("i below 0", x.books(1, 1, -1, 8), -13);
        CHECK.due("its fault", x.fault(), 3);
        CHECK.due("a cell too many", x.books(1, 1, 1, 8), -13);
        CHECK.due("i behind the end, none taken", x.books(1, 1, 9, 0), -13);
        CHECK.due("i far behind the end", x.books(1, 1, Integer.MAX_VALUE, 1), -13);
        CHECK.due("n far too high", x.books(1, 1, 1, Integer.MAX_VALUE), -13);
        CHECK.due("none at the end", x.books(1, 1, 8, 0), -100);
        CHECK.due("a text's fault is none of the machine's", x.fault(), 0);
        x.books(1, 1, 9, 0);
        CHECK.due("taken", x.books(1, 1, 0, 8), 2);
        CHECK.due("no fault", x.fault(), 0);
    }

    private static void refusedTextChangesNothing() {
        BookPairs x = Check.made("b;L3a,4b");
        x.price(0, 7);
        x.reading(1, 2);
        CHECK.due("a wrong text", Check.books(x, "b;D5c;P1-,9d,x"), -113);
        CHECK.due("left ones stay", x.many(0), 1);
        CHECK.due("right ones stay", x.many(1), 1);
        CHECK.due("SKIP stays", x.many(2), 7);
        CHECK.due("READINGS stay", x.many(5), 1);
        CHECK.due("kind stays", x.ofLeft(0, 0), 1);
        CHECK.due("letters stay", x.ofLeft(0, 1), 3);
        CHECK.due("right letters stay", x.ofRight(0, 0), 4);
    }

    private static void takenTextMakesAllAnew() {
        BookPairs x = Check.made("b;L3a;P1-,4b,5-");
        x.price(0, 7);
        x.price(1, 8);
        x.price(2, 3);
        x.reading(1, 2);
        x.tell(0);
        int trace = x.trace();
        CHECK.due("another text", Check.books(x, "b;D5c,9d"), 2);
        int[] anew = {1, 1, 4, 1, 7, 0};
        for (int what = 0; what <= 5; what++) {
            CHECK.due("anew many " + what, x.many(what), anew[what]);
        }
        CHECK.due("BEST anew", x.best(0), 1 + 3);
        Check.books(x, "b;P9c,9c");
        CHECK.due("BEST anew again", x.best(0), 0);
        CHECK.due("TRACE is not of the BOOKS", x.trace(), trace);
        CHECK.due("no second left one", x.ofLeft(1, 0), -1);
    }

    private static void ofLeft() {
        BookPairs x = Check.made("b;P4c;L4d;D4-,4c,9d,4-");
        int[] lengths = {4, 5, 8};
        for (int a = 0; a < 3; a++) {
            CHECK.due("length of " + a, x.ofLeft(a, 2), lengths[a]);
        }
        CHECK.due("no such", x.ofLeft(3, 9), -1);
        CHECK.due("no such below 0", x.ofLeft(-1, 0), -1);
        CHECK.due("what", x.ofLeft(0, 5), -2);
        CHECK.due("what below 0", x.ofLeft(0, -1), -2);
        BookPairs y = Check.made("b;P9a;P2-;P3-;P4-,4a,5-,9-");
        for (int a = 0; a < 4; a++) {
            for (int b = 0; b < 3; b++) {
                CHECK.due("both sides tell of " + a + " and " + b, y.ofLeft(a, 4) >> b & 1, y.ofRight(b, 2) >> a & 1);
            }
        }
        CHECK.due("one with two", y.ofLeft(0, 4), 3);
        CHECK.due("the second of two", y.ofRight(1, 2), 1);
    }

    private static void ofRight() {
        BookPairs x = Check.made("b;P2a;P3b,5-,7d");
        CHECK.due("letters", x.ofRight(1, 0), 7);
        CHECK.due("anchor", x.ofRight(1, 1), 3);
        CHECK.due("no anchor", x.ofRight(0, 1), 4);
        CHECK.due("no such", x.ofRight(2, 9), -1);
        CHECK.due("no such below 0", x.ofRight(-1, 0), -1);
        CHECK.due("what", x.ofRight(0, 3), -2);
        CHECK.due("what below 0", x.ofRight(0, -1), -2);
        BookPairs y = Check.made("b;P2a;P3b;P9c;P9c,5a,1-");
        y.price(2, 1);
        CHECK.due("no alignment, right", y.ofRight(0, 2), 0);
        CHECK.due("no alignment, left", y.ofLeft(0, 4), 0);
        BookPairs z = Check.made("b;P2a;P3b,5a");
        z.letters(1, 0, 5);
        CHECK.due("skip is dear: both with one", z.ofRight(0, 2), 3);
        z.price(0, 0);
        z.price(1, 9);
        CHECK.due("skip is cheap: one alone", z.ofRight(0, 2), 1);
        CHECK.due("the other alone", z.ofLeft(1, 4), 0);
    }

    private static void letters() {
        BookPairs x = Check.made("b;D2a;P3b,5-,7d");
        CHECK.due("letters left", x.letters(0, 0, 9), 2);
        CHECK.due("they became", x.ofLeft(0, 1), 9);
        CHECK.due("length too", x.ofLeft(0, 2), 18);
        CHECK.due("letters again", x.letters(0, 0, 1), 9);
        CHECK.due("letters right", x.letters(1, 1, 1), 7);
        CHECK.due("they became", x.ofRight(1, 0), 1);
        CHECK.due("side", x.letters(2, 9, 0), -2);
        CHECK.due("side below 0", x.letters(-1, 0, 1), -2);
        CHECK.due("no such left", x.letters(0, 2, 0), -1);
        CHECK.due("no such right", x.letters(1, 2, 0), -1);
        CHECK.due("no such below 0", x.letters(1, -1, 1), -1);
        CHECK.due("v below 1", x.letters(0, 0, 0), -2);
        CHECK.due("v above 9", x.letters(1, 0, 10), -2);
        CHECK.due("as it was", x.ofLeft(0, 1), 1);
        CHECK.due("as it was", x.ofRight(0, 0), 5);
        CHECK.due("without books", new BookPairs().letters(0, 0, 1), -1);
        BookPairs y = Check.made("b;P1-,9-");
        CHECK.due("best ahead", y.best(0), 8);
        y.letters(0, 0, 9);
        CHECK.due("best behind", y.best(0), 0);
    }

    private static void price() {
        BookPairs x = new BookPairs();
        CHECK.due("what ahead of state", x.price(3, 0), -2);
        CHECK.due("what below 0", x.price(-1, 0), -2);
        CHECK.due("state ahead of v", x.price(0, 99), -3);
        x = Check.made("b;P1-,1-");
        int[] before = {4, 1, 7};
        int[] highest = {9, 9, 7};
        for (int what = 0; what < 3; what++) {
            CHECK.due("v above, " + what, x.price(what, highest[what] + 1), -2);
            CHECK.due("v below, " + what, x.price(what, -1), -2);
            CHECK.due("price 0, " + what, x.price(what, 0), before[what]);
            CHECK.due("it became, " + what, x.many(what + 2), 0);
            CHECK.due("highest price, " + what, x.price(what, highest[what]), 0);
            CHECK.due("it became, " + what, x.many(what + 2), highest[what]);
        }
    }

    private static void rights(BookPairs x, String want) {
        StringBuilder got = new StringBuilder();
        for (int b = 0; b < x.many(1); b++) {
            got.append(x.ofRight(b, 0)).append((char) ('a' + x.ofRight(b, 1)));
        }
        CHECK.due("right ones " + got + ", due " + want, got.toString().equals(want) ? 1 : 0, 1);
    }

    private static void move() {
        BookPairs x = Check.made("b;P1-,1a,2b,3c,4d,5-");
        CHECK.due("to the front", x.move(3, 2, 0), 2);
        rights(x, "4d5e1a2b3c");
        CHECK.due("back to the end", x.move(0, 2, 3), 2);
        rights(x, "1a2b3c4d5e");
        CHECK.due("one amid", x.move(0, 1, 2), 1);
        rights(x, "2b3c1a4d5e");
        CHECK.due("to where it is", x.move(1, 3, 1), 3);
        rights(x, "2b3c1a4d5e");
        CHECK.due("all", x.move(0, 5, 0), 5);
        rights(x, "2b3c1a4d5e");
        CHECK.due("a step on", x.move(1, 2, 2), 2);
        rights(x, "2b4d3c1a5e");
        CHECK.due("n ahead of all", x.move(9, 0, 9), -2);
        CHECK.due("n below 0", x.move(0, -1, 0), -2);
        CHECK.due("not all are there", x.move(4, 2, 9), -1);
        CHECK.due("b below 0", x.move(-1, 2, 0), -1);
        CHECK.due("b behind the end", x.move(5, 1, 0), -1);
        CHECK.due("far too many", x.move(1, Integer.MAX_VALUE, 0), -1);
        CHECK.due("t too high", x.move(0, 2, 4), -2);
        CHECK.due("t below 0", x.move(0, 2, -1), -2);
        CHECK.due("t with all moved", x.move(0, 5, 1), -2);
        rights(x, "2b4d3c1a5e");
        CHECK.due("without books", new BookPairs().move(0, 1, 0), -1);
        BookPairs seven = Check.made("b;P1-,1a,2b,3c,4d,5-,6a,7b");
        CHECK.due("of seven", seven.move(5, 2, 1), 2);
        rights(seven, "1a6a7b2b3c4d5e");
        BookPairs y = Check.made("b;P1a;P9b,9b,1a");
        int ahead = y.best(0);
        y.move(0, 1, 1);
        CHECK.due("moved right", y.best(0), 0);
        CHECK.due("and it was dear", ahead > 0 ? 1 : 0, 1);
    }
}
