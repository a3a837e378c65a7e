/** Promises 19 to 23 and 28: sheet, lose, put, cell, copy, fault. */
public final class SheetsTest {
    private static final Check CHECK = new Check();
    private static final long LOST = BookPairs.LOST;

    public static void main(String[] args) {
        sheet();
        lose();
        put();
        cell();
        copy();
        copyRefused();
        faultStays();
        CHECK.end();
    }

    private static void sheet() {
        BookPairs x = new BookPairs();
        CHECK.due("no such", x.sheet(4, 9, 99), -1);
        CHECK.due("no such below 0", x.sheet(-1, 0, 0), -1);
        CHECK.due("lane", x.sheet(0, 3, -1), -2);
        CHECK.due("lane below 0", x.sheet(0, -1, 0), -2);
        CHECK.due("n above 60", x.sheet(0, 0, 61), -2);
        CHECK.due("no fault", x.fault(), 0);
        CHECK.due("n below 0", x.sheet(0, 0, -1), -14);
        CHECK.due("its fault", x.fault(), 4);
        CHECK.due("it has nothing still", x.lose(0), 0);
        CHECK.due("sixty", x.sheet(3, 2, 60), 1);
        CHECK.due("no fault", x.fault(), 0);
        CHECK.due("0 at first", x.cell(3, 59, 2), 0);
        CHECK.due("no more", x.cell(3, 60, 2), LOST);
        x.put(3, 59, 5);
        CHECK.due("below 0 changes nothing", x.sheet(3, 0, -1), -14);
        CHECK.due("still there", x.cell(3, 59, 2), 5);
        CHECK.due("anew", x.sheet(3, 2, 60), 1);
        CHECK.due("0 again", x.cell(3, 59, 2), 0);
        CHECK.due("an empty one", x.sheet(3, 1, 0), 1);
        CHECK.due("has no cell", x.cell(3, 0, 1), LOST);
        CHECK.due("by its index", x.fault(), 3);
        CHECK.due("but it is there", x.lose(3), 1);
    }

    private static void lose() {
        BookPairs x = new BookPairs();
        CHECK.due("nothing", x.lose(0), 0);
        x.sheet(0, 0, 3);
        CHECK.due("no such", x.lose(4), -1);
        CHECK.due("no such below 0", x.lose(-1), -1);
        CHECK.due("something", x.lose(0), 1);
        CHECK.due("no more", x.lose(0), 0);
        CHECK.due("nothing is there", x.put(0, 0, 1), -11);
        CHECK.due("lose tells no fault", x.lose(0), 0);
        CHECK.due("so the last one stays", x.fault(), 1);
    }

    private static void put() {
        BookPairs x = new BookPairs();
        CHECK.due("no such", x.put(4, 0, 0), -1);
        CHECK.due("no such below 0", x.put(-1, 0, 0), -1);
        CHECK.due("null", x.put(0, -1, 0), -11);
        CHECK.due("its fault", x.fault(), 1);
        x.sheet(0, 0, 2);
        x.sheet(1, 1, 2);
        x.sheet(2, 2, 2);
        CHECK.due("index", x.put(0, 2, 0), -13);
        CHECK.due("its fault", x.fault(), 3);
        CHECK.due("index below 0", x.put(0, -1, 0), -13);
        CHECK.due("refused", x.put(4, 0, 0), -1);
        CHECK.due("no fault", x.fault(), 0);
        int[] values = {127, 128, 255, 256, -129, 32767, 32768, 65535, -32769, Integer.MAX_VALUE, Integer.MIN_VALUE};
        for (int v : values) {
            for (int lane = 0; lane < 3; lane++) {
                CHECK.due("put " + v, x.put(lane, 1, v), 1);
            }
            CHECK.due("byte " + v, x.cell(0, 1, 0), (byte) v);
            CHECK.due("short " + v, x.cell(1, 1, 1), (short) v);
            CHECK.due("int " + v, x.cell(2, 1, 2), v);
            CHECK.due("its neighbour", x.cell(2, 0, 2), 0);
        }
    }

    private static void lost(BookPairs x, int k, int i, int lane, int fault) {
        x.put(3, 0, 0);
        CHECK.due("cell " + k + " " + i + " " + lane, x.cell(k, i, lane), LOST);
        CHECK.due("its fault", x.fault(), fault);
    }

    private static void cell() {
        BookPairs x = new BookPairs();
        x.sheet(1, 1, 2);
        x.put(1, 1, -7);
        CHECK.due("cell", x.cell(1, 1, 1), -7);
        lost(x, 4, 0, 0, 0);
        lost(x, -1, 0, 0, 0);
        lost(x, 0, 0, 3, 0);
        lost(x, 1, 0, -1, 0);
        lost(x, 1, 9, 0, 2);
        lost(x, 1, 0, 2, 2);
        lost(x, 0, 9, 0, 1);
        lost(x, 1, 2, 1, 3);
        lost(x, 1, -1, 1, 3);
        CHECK.due("cell", x.cell(1, 0, 1), 0);
        CHECK.due("no fault", x.fault(), 0);
    }

    private static void row(BookPairs x, int k, int lane, int... want) {
        for (int i = 0; i < want.length; i++) {
            CHECK.due("cell " + i + " of " + k, x.cell(k, i, lane), want[i]);
        }
    }

    private static void copy() {
        BookPairs x = new BookPairs();
        Check.fill(x, 0, 1, 1, 2, 3, 4, 5);
        Check.fill(x, 1, 1, 9, 9, 9);
        CHECK.due("to another", x.copy(0, 2, 1, 1, 2), 2);
        row(x, 1, 1, 9, 3, 4);
        row(x, 0, 1, 1, 2, 3, 4, 5);
        CHECK.due("onto itself, on", x.copy(0, 0, 0, 1, 4), 4);
        row(x, 0, 1, 1, 1, 2, 3, 4);
        CHECK.due("onto itself, back", x.copy(0, 2, 0, 0, 3), 3);
        row(x, 0, 1, 2, 3, 4, 3, 4);
        CHECK.due("none at both ends", x.copy(0, 5, 1, 3, 0), 0);
        CHECK.due("all", x.copy(1, 0, 0, 2, 3), 3);
        row(x, 0, 1, 2, 3, 9, 3, 4);
        CHECK.due("no fault", x.fault(), 0);
    }

    private static void refusedCopy(BookPairs x, int want, int... call) {
        CHECK.due("copy " + java.util.Arrays.toString(call),
            x.copy(call[0], call[1], call[2], call[3], call[4]), want);
        CHECK.due("its fault", x.fault(), want <= -10 ? -10 - want : 0);
    }

    private static void copyRefused() {
        BookPairs x = new BookPairs();
        Check.fill(x, 0, 1, 1, 2, 3, 4, 5);
        Check.fill(x, 1, 1, 9, 9, 9);
        Check.fill(x, 2, 2, 9, 9, 9);
        refusedCopy(x, -1, 4, 0, 3, 0, 0);
        refusedCopy(x, -1, 3, 0, 4, 0, 0);
        refusedCopy(x, -1, -1, 0, 0, 0, 0);
        refusedCopy(x, -1, 0, 0, -1, 0, 0);
        refusedCopy(x, -11, 3, -1, 0, 0, 0);
        refusedCopy(x, -11, 0, -1, 3, 0, 0);
        refusedCopy(x, -12, 0, -1, 2, 0, -1);
        refusedCopy(x, -13, 0, 0, 1, 0, -1);
        refusedCopy(x, -13, 0, -1, 1, 0, 1);
        refusedCopy(x, -13, 0, 0, 1, -1, 1);
        refusedCopy(x, -13, 0, 3, 1, 0, 3);
        refusedCopy(x, -13, 0, 0, 1, 1, 3);
        refusedCopy(x, -13, 0, 6, 1, 0, 0);
        refusedCopy(x, -13, 0, 0, 1, 4, 0);
        refusedCopy(x, -13, 0, 1, 1, 1, Integer.MAX_VALUE);
        refusedCopy(x, -13, 0, Integer.MAX_VALUE, 1, 1, 1);
        row(x, 1, 1, 9, 9, 9);
        refusedCopy(x, 3, 0, 0, 1, 0, 3);
    }

    /** Calls that name no FAULTS leave fault() as it is; those that name some make it anew. */
    private static void faultStays() {
        BookPairs x = Check.made("b;P3a,4a");
        x.put(3, 0, 0);
        CHECK.due("null", x.fault(), 1);
        x.ofLeft(9, 0);
        x.ofRight(0, 0);
        x.letters(0, 0, 3);
        x.price(0, 4);
        x.move(0, 1, 0);
        x.best(0);
        x.ofPair(0, 0);
        x.cost(0, 0, 0);
        x.by(1);
        x.enough();
        x.reading(0, 0);
        x.back(1);
        x.kinds(0);
        x.letterings(0);
        x.odds(0, 0);
        x.lose(3);
        x.tell(0);
        x.read(0);
        x.trace();
        x.many(0);
        CHECK.due("it stays", x.fault(), 1);
        CHECK.due("told twice", x.fault(), 1);
        x.as(0, 0);
        CHECK.due("as makes it anew", x.fault(), 0);
        x.put(3, 0, 0);
        x.as(9, 0);
        CHECK.due("as, refused", x.fault(), 0);
        x.put(3, 0, 0);
        x.day(4, 0, 0, 0, 0);
        CHECK.due("day, refused", x.fault(), 0);
        x.put(3, 0, 0);
        x.copy(0, 0, 0, 0, 0);
        CHECK.due("copy", x.fault(), 0);
        x.put(3, 0, 0);
        x.books(0, 0, 0, 1);
        CHECK.due("books, a wrong text", x.fault(), 0);
        x.put(3, 0, 0);
        x.sheet(0, 9, 0);
        CHECK.due("sheet, refused", x.fault(), 0);
    }
}
