/** Promises 24 to 27 and 29: tell, read, as, trace, many. */
public final class PartsTest {
    private static final Check CHECK = new Check();

    public static void main(String[] args) {
        tell();
        read();
        as();
        traceWraps();
        many();
        CHECK.end();
    }

    private static int after(int trace, int... bodies) {
        for (int body : bodies) {
            trace = 31 * trace + body;
        }
        return trace;
    }

    private static void tell() {
        BookPairs x = Check.made("b;P3a;L4b;D5-,1-");
        CHECK.due("plain", x.tell(0), 3);
        int trace = after(0, 1);
        CHECK.due("its trace", x.trace(), trace);
        CHECK.due("long", x.tell(1), 104);
        trace = after(trace, 2, 1);
        CHECK.due("its trace", x.trace(), trace);
        CHECK.due("double", x.tell(2), 110);
        trace = after(trace, 3, 2, 1, 1);
        CHECK.due("its trace", x.trace(), trace);
        CHECK.due("no such", x.tell(3), -1);
        CHECK.due("no such below 0", x.tell(-1), -1);
        CHECK.due("its trace stays", x.trace(), trace);
        x.letters(0, 2, 9);
        CHECK.due("double, letters anew", x.tell(2), 118);
        CHECK.due("without books", new BookPairs().tell(0), -1);
    }

    private static void read() {
        BookPairs x = Check.made("b;P3a;L4d;D5-;D5c;P1-,1-");
        int trace = 0;
        int[] want = {0, 3, 84, 82, 4};
        for (int a = 0; a < 5; a++) {
            CHECK.due("read " + a, x.read(a), want[a]);
            trace = a == 2 || a == 3 ? after(trace, 5, 4) : after(trace, 4);
            CHECK.due("its trace", x.trace(), trace);
        }
        CHECK.due("no such", x.read(5), -1);
        CHECK.due("no such below 0", x.read(-1), -1);
        CHECK.due("its trace stays", x.trace(), trace);
        CHECK.due("without books", new BookPairs().read(0), -1);
    }

    private static void as() {
        BookPairs x = Check.made("b;P3a;L4d;D5-,1-");
        for (int a = 0; a < 3; a++) {
            for (int kind = 0; kind < 3; kind++) {
                CHECK.due(a + " as " + kind, x.as(a, kind), kind <= a ? 1 : -12);
                CHECK.due("its fault", x.fault(), kind <= a ? 0 : 2);
            }
        }
        CHECK.due("no such", x.as(3, 9), -1);
        CHECK.due("no such below 0", x.as(-1, 0), -1);
        CHECK.due("kind", x.as(0, 3), -2);
        CHECK.due("kind below 0", x.as(2, -1), -2);
        CHECK.due("no fault", x.fault(), 0);
        CHECK.due("without books", new BookPairs().as(0, 0), -1);
        CHECK.due("no trace", x.trace(), 0);
    }

    private static void traceWraps() {
        BookPairs x = Check.made("b;D9a,1-");
        int trace = 0;
        for (int k = 0; k < 20; k++) {
            x.tell(0);
            x.read(0);
            trace = after(trace, 3, 2, 1, 1, 5, 4);
            CHECK.due("trace", x.trace(), trace);
        }
    }

    private static void many() {
        BookPairs x = Check.made("b;D9a;P1-;P1-,1-,2a");
        x.price(0, 9);
        x.price(1, 8);
        x.price(2, 6);
        x.reading(0, 0);
        x.reading(0, 0);
        x.reading(0, 0);
        int[] want = {3, 2, 9, 8, 6, 3};
        for (int what = 0; what <= 5; what++) {
            CHECK.due("many " + what, x.many(what), want[what]);
        }
        CHECK.due("what", x.many(6), -2);
        CHECK.due("what below 0", x.many(-1), -2);
    }
}
