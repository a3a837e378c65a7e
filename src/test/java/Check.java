/** What the tests share: counting wrong answers, and giving a text to an object. */
final class Check {
    private int wrong;
    private int asked;

    void due(String call, long got, long want) {
        asked++;
        if (got != want) {
            wrong++;
            System.out.println(call + " answered " + got + ", due is " + want);
        }
    }

    /** Ends the program; with exit code 1, if an answer was wrong. */
    void end() {
        System.out.println(asked + " answers, " + wrong + " wrong");
        System.exit(wrong == 0 ? 0 : 1);
    }

    /** Puts numbers on a sheet that is made anew for them. */
    static void fill(BookPairs x, int sheet, int lane, int... cells) {
        x.sheet(sheet, lane, cells.length);
        for (int i = 0; i < cells.length; i++) {
            x.put(sheet, i, cells[i]);
        }
    }

    static int[] codes(String text) {
        return text.chars().toArray();
    }

    /** Takes a text by way of sheet 0. */
    static int books(BookPairs x, String text) {
        fill(x, 0, 0, codes(text));
        return x.books(0, 0, 0, text.length());
    }

    static BookPairs made(String text) {
        BookPairs x = new BookPairs();
        if (books(x, text) < 0) {
            throw new IllegalStateException("the test's text is wrong: " + text);
        }
        return x;
    }
}
