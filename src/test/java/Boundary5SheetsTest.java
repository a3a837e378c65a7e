/** Boundary cases of promises 19 to 23: sheet, lose, put, cell, copy. */
public final class Boundary5SheetsTest {
    private static final int UNKNOWN = Boundary.UNKNOWN, OUTSIDE = Boundary.OUTSIDE;
    private static final int NULL = Boundary.NULL, CAST = Boundary.CAST, INDEX = Boundary.INDEX, SIZE = Boundary.SIZE;
    private static final long LOST = Boundary.LOST;
    private static final String[] NO_SHEETS = {"-1", "4", "MIN", "MAX"}, NO_LANES = {"-1", "3", "MIN", "MAX"};

    public static void main(String[] args) throws Exception {
        Boundary.runAll(Boundary5SheetsTest.class);
    }

    private static void cellsAre(Run run, int sheet, int lane, long... cells) {
        for (int i = 0; i < cells.length; i++) {
            run.due("cell " + sheet + " " + i + " " + lane, cells[i]);
        }
        run.due("cell " + sheet + " " + cells.length + " " + lane, LOST).due("fault", INDEX);
    }

    // ---- promise 19

    @Holds(promise = 19, to = {"A SHEET gets a new row: 1.", "a row of 0 .. 60 numbers (0 at first) of a LANE"})
    static void p19_noneAndSixtyCells_ofEachSheetAndLane() {
        for (int k = 0; k < 4; k++) {
            for (int lane = 0; lane < 3; lane++) {
                Run run = new Run().due("sheet " + k + " " + lane + " 60", 1).due("fault", 0);
                cellsAre(run, k, lane, new long[60]);
                run.due("sheet " + k + " " + lane + " 0", 1).due("fault", 0);
                cellsAre(run, k, lane);
            }
        }
    }

    @Holds(promise = 19, to = "(0 at first)")
    static void p19_aNewRowHasNothingOfTheOldOne() {
        Run run = new Run().fill(0, 2, 1, 2, 3);
        run.due("sheet 0 2 3", 1);
        cellsAre(run, 0, 2, 0, 0, 0);
        run.fill(0, 2, 1, 2, 3).with("sheet 0 2 1", "sheet 0 2 3");
        cellsAre(run, 0, 2, 0, 0, 0);
        run.fill(0, 2, 1, 2, 3).with("lose 0", "sheet 0 0 3");
        cellsAre(run, 0, 0, 0, 0, 0);
    }

    @Holds(promise = 19, to = "UNKNOWN; OUTSIDE: lane, n above 60; SIZE.")
    static void p19_unknownSheet_aheadOfAll() {
        for (String k : NO_SHEETS) {
            Boundary.refused("sheet " + k + " 0 1", UNKNOWN);
            Boundary.refused("sheet " + k + " 3 61", UNKNOWN);
            Boundary.refused("sheet " + k + " 0 -1", UNKNOWN);
        }
    }

    @Holds(promise = 19, to = "OUTSIDE: lane, n above 60; SIZE.")
    static void p19_outsideLane_aheadOfSize() {
        for (String lane : NO_LANES) {
            Boundary.refused("sheet 0 " + lane + " 1", OUTSIDE);
            Boundary.refused("sheet 0 " + lane + " -1", OUTSIDE);
        }
    }

    @Holds(promise = 19, to = "n above 60")
    static void p19_outsideN() {
        Boundary.refused("sheet 0 0 61", OUTSIDE);
        Boundary.refused("sheet 3 2 61", OUTSIDE);
        Boundary.refused("sheet 0 0 MAX", OUTSIDE);
    }

    @Holds(promise = 19, to = {"SIZE.", "4 SIZE (a length below 0)"})
    static void p19_sizeBelow0() {
        Boundary.failed("sheet 0 0 -1", SIZE);
        Boundary.failed("sheet 0 2 MIN", SIZE);
        Boundary.failed(new Run(), "sheet 3 1 -1", SIZE);
    }

    // ---- promise 20

    @Holds(promise = 20, to = "A SHEET has nothing: 1; 0: it had nothing.")
    static void p20_somethingOnce_nothingTwice() {
        new Run().with("sheet 3 0 60").due("lose 3", 1).due("put 3 0 0", -10 - NULL).due("lose 3", 0).due("lose 3", 0);
    }

    @Holds(promise = 20, to = "A SHEET has nothing: 1; 0: it had nothing.")
    static void p20_aRowOfNoCellsIsSomething() {
        new Run().with("sheet 0 0 0").due("lose 0", 1).due("lose 0", 0);
    }

    @Holds(promise = 20, to = "A SHEET has nothing")
    static void p20_theOtherSheetsAndTheBooksStay() {
        Boundary.ready().due("lose 0", 1).due("cell 1 0 1", 9).due("cell 2 2 2", 70000).due("many 0", 3)
            .due("best 0", 0);
    }

    @Holds(promise = 20, to = "UNKNOWN")
    static void p20_unknownSheet() {
        for (String k : NO_SHEETS) {
            Boundary.refused("lose " + k, UNKNOWN);
        }
    }

    // ---- promise 21

    private static void cut(int lane, int v, long want) {
        new Run().with("sheet 1 " + lane + " 3").due("put 1 1 " + v, 1).due("cell 1 1 " + lane, want)
            .due("cell 1 0 " + lane, 0).due("cell 1 2 " + lane, 0);
    }

    @Holds(promise = 21, to = {"Cell i of a SHEET becomes v: 1.", "what comes to a cell of it is cut to its LANE"})
    static void p21_bytesWrap() {
        cut(0, 127, 127);
        cut(0, 128, -128);
        cut(0, -128, -128);
        cut(0, -129, 127);
        cut(0, 255, -1);
        cut(0, 256, 0);
        cut(0, Integer.MAX_VALUE, -1);
        cut(0, Integer.MIN_VALUE, 0);
    }

    @Holds(promise = 21, to = "what comes to a cell of it is cut to its LANE")
    static void p21_shortsWrap() {
        cut(1, 32767, 32767);
        cut(1, 32768, -32768);
        cut(1, -32768, -32768);
        cut(1, -32769, 32767);
        cut(1, 65535, -1);
        cut(1, 65536, 0);
        cut(1, Integer.MAX_VALUE, -1);
        cut(1, Integer.MIN_VALUE, 0);
    }

    @Holds(promise = 21, to = "what comes to a cell of it is cut to its LANE")
    static void p21_intsStayAsTheyAre() {
        cut(2, 128, 128);
        cut(2, 65536, 65536);
        cut(2, Integer.MAX_VALUE, Integer.MAX_VALUE);
        cut(2, Integer.MIN_VALUE, Integer.MIN_VALUE);
    }

    @Holds(promise = 21, to = "Cell i of a SHEET becomes v: 1.")
    static void p21_firstAndLastCell() {
        new Run().with("sheet 0 2 60").due("put 0 0 5", 1).due("put 0 59 6", 1).due("fault", 0).due("cell 0 0 2", 5)
            .due("cell 0 59 2", 6);
    }

    @Holds(promise = 21, to = "UNKNOWN; NULL; INDEX.")
    static void p21_unknownSheet_aheadOfFaults() {
        for (String k : NO_SHEETS) {
            Boundary.refused("put " + k + " 0 0", UNKNOWN);
            Boundary.refused("put " + k + " -1 0", UNKNOWN);
        }
    }

    @Holds(promise = 21, to = "NULL; INDEX.")
    static void p21_nothingIsNull_aheadOfIndex() {
        Boundary.failed("put 3 0 1", NULL);
        Boundary.failed("put 3 -1 1", NULL);
        Boundary.failed("put 3 60 1", NULL);
    }

    @Holds(promise = 21, to = "INDEX.")
    static void p21_indexOfACellThatIsNotThere() {
        for (String i : new String[] {"-1", "3", "59", "60", "MIN", "MAX"}) {
            Boundary.failed("put 2 " + i + " 1", INDEX);
        }
        Boundary.failed(new Run().with("sheet 0 0 0"), "put 0 0 1", INDEX);
        Boundary.failed(new Run().with("sheet 0 0 60"), "put 0 60 1", INDEX);
    }

    // ---- promise 22

    @Holds(promise = 22, to = "Cell i of what a SHEET has, taken as a row of a LANE.")
    static void p22_firstAndLastCellOfEachLane() {
        Boundary.onlyAnswers(Boundary.ready(), "cell 0 0 0", 98);
        Boundary.onlyAnswers(Boundary.ready(), "cell 0 21 0", 98);
        Boundary.onlyAnswers(Boundary.ready(), "cell 1 3 1", 12);
        Boundary.onlyAnswers(Boundary.ready(), "cell 2 2 2", 70000);
    }

    @Holds(promise = 22, to = "LOST: UNKNOWN, OUTSIDE: lane")
    static void p22_lostByNoSuchSheetOrLane() {
        for (String k : NO_SHEETS) {
            Boundary.refused("cell " + k + " 0 0", UNKNOWN);
            Boundary.refused("cell " + k + " -1 3", UNKNOWN);
        }
        for (String lane : NO_LANES) {
            Boundary.refused("cell 0 0 " + lane, OUTSIDE);
            Boundary.refused("cell 3 -1 " + lane, OUTSIDE);
        }
    }

    @Holds(promise = 22, to = "FAULTS CAST (nothing is no CAST), NULL, INDEX.")
    static void p22_castOfAnotherLane_aheadOfIndex() {
        for (int k = 0; k < 3; k++) {
            for (int lane = 0; lane < 3; lane++) {
                if (lane != k) {
                    Boundary.failed("cell " + k + " 0 " + lane, CAST);
                    Boundary.failed("cell " + k + " 60 " + lane, CAST);
                }
            }
        }
    }

    @Holds(promise = 22, to = "(nothing is no CAST), NULL")
    static void p22_nothingIsNullByEachLane_aheadOfIndex() {
        for (int lane = 0; lane < 3; lane++) {
            Boundary.failed("cell 3 0 " + lane, NULL);
            Boundary.failed("cell 3 -1 " + lane, NULL);
            Boundary.failed(Boundary.ready().with("lose 0"), "cell 0 0 " + lane, NULL);
        }
    }

    @Holds(promise = 22, to = "INDEX.")
    static void p22_indexOfACellThatIsNotThere() {
        for (String i : new String[] {"-1", "3", "60", "MIN", "MAX"}) {
            Boundary.failed("cell 2 " + i + " 2", INDEX);
        }
        Boundary.failed(new Run().with("sheet 0 0 0"), "cell 0 0 0", INDEX);
    }

    // ---- promise 23

    private static Run two() {
        return new Run().fill(0, 1, 1, 2, 3, 4, 5).fill(1, 1, 7, 8, 9);
    }

    @Holds(promise = 23, to = {"n cells of a SHEET from i on go to another one", "from j on, as they were: n."})
    static void p23_toAnotherOne_itsFirstAndItsLastCells() {
        Run run = two().due("copy 0 0 1 0 3", 3);
        cellsAre(run, 1, 1, 1, 2, 3);
        run = two().due("copy 0 4 1 2 1", 1);
        cellsAre(run, 1, 1, 7, 8, 5);
        cellsAre(run, 0, 1, 1, 2, 3, 4, 5);
        run = two().due("copy 1 0 0 2 3", 3);
        cellsAre(run, 0, 1, 1, 2, 7, 8, 9);
    }

    @Holds(promise = 23, to = "(perhaps the same) from j on, as they were")
    static void p23_toTheSame_cellsThatLieOverOneAnother() {
        cellsAre(two().due("copy 0 0 0 1 4", 4), 0, 1, 1, 1, 2, 3, 4);
        cellsAre(two().due("copy 0 1 0 0 4", 4), 0, 1, 2, 3, 4, 5, 5);
        cellsAre(two().due("copy 0 0 0 2 3", 3), 0, 1, 1, 2, 1, 2, 3);
        cellsAre(two().due("copy 0 0 0 0 5", 5), 0, 1, 1, 2, 3, 4, 5);
    }

    @Holds(promise = 23, to = "n cells of a SHEET from i on")
    static void p23_noCells() {
        Boundary.onlyAnswers(two(), "copy 0 0 1 0 0", 0);
        Boundary.onlyAnswers(two(), "copy 0 5 1 3 0", 0);
        Boundary.onlyAnswers(two(), "copy 0 5 0 5 0", 0);
        Boundary.onlyAnswers(new Run().with("sheet 0 0 0"), "copy 0 0 0 0 0", 0);
    }

    @Holds(promise = 23, to = "n cells of a SHEET from i on go to another one")
    static void p23_sixtyCells_ofEachLane() {
        for (int lane = 0; lane < 3; lane++) {
            Run run = new Run().with("sheet 2 " + lane + " 60", "sheet 3 " + lane + " 60", "put 2 0 -128");
            run.with("put 2 59 127").due("copy 2 0 3 0 60", 60).due("cell 3 0 " + lane, -128);
            run.due("cell 3 59 " + lane, 127).due("cell 3 1 " + lane, 0);
        }
    }

    @Holds(promise = 23, to = "UNKNOWN; FAULTS NULL")
    static void p23_unknownSheets_aheadOfFaults() {
        for (String k : NO_SHEETS) {
            Boundary.refused("copy " + k + " 0 0 0 1", UNKNOWN);
            Boundary.refused("copy 0 0 " + k + " 0 1", UNKNOWN);
            Boundary.refused("copy 3 -1 " + k + " 0 -1", UNKNOWN);
            Boundary.refused("copy " + k + " -1 3 0 -1", UNKNOWN);
        }
    }

    @Holds(promise = 23, to = "FAULTS NULL (the first, the other), CAST (unlike LANES)")
    static void p23_nothingIsNull_aheadOfCastAndIndex() {
        Boundary.failed("copy 3 0 0 0 0", NULL);
        Boundary.failed("copy 0 0 3 0 0", NULL);
        Boundary.failed("copy 3 0 3 0 0", NULL);
        Boundary.failed("copy 3 -1 0 0 -1", NULL);
        Boundary.failed("copy 0 -1 3 0 -1", NULL);
    }

    @Holds(promise = 23, to = "CAST (unlike LANES), INDEX")
    static void p23_castOfUnlikeLanes_aheadOfIndex() {
        Boundary.failed("copy 0 0 1 0 1", CAST);
        Boundary.failed("copy 2 0 1 0 0", CAST);
        Boundary.failed("copy 1 -1 2 0 1", CAST);
        Boundary.failed("copy 1 0 0 -1 -1", CAST);
    }

    @Holds(promise = 23, to = "INDEX: i, j, n below 0 or beyond.")
    static void p23_indexBelow0() {
        Boundary.failed(two(), "copy 0 -1 1 0 1", INDEX);
        Boundary.failed(two(), "copy 0 0 1 -1 1", INDEX);
        Boundary.failed(two(), "copy 0 0 1 0 -1", INDEX);
        Boundary.failed(two(), "copy 0 MIN 1 0 1", INDEX);
        Boundary.failed(two(), "copy 0 0 1 MIN 1", INDEX);
        Boundary.failed(two(), "copy 0 0 1 0 MIN", INDEX);
        Boundary.failed(two(), "copy 0 MIN 1 MIN MIN", INDEX);
    }

    @Holds(promise = 23, to = "INDEX: i, j, n below 0 or beyond.")
    static void p23_indexBeyond() {
        Boundary.failed(two(), "copy 0 3 1 0 3", INDEX);
        Boundary.failed(two(), "copy 0 5 1 0 1", INDEX);
        Boundary.failed(two(), "copy 0 0 1 1 3", INDEX);
        Boundary.failed(two(), "copy 0 0 1 3 1", INDEX);
        Boundary.failed(two(), "copy 0 0 1 0 4", INDEX);
        Boundary.failed(two(), "copy 1 0 0 0 4", INDEX);
        Boundary.failed(two(), "copy 0 MAX 1 0 1", INDEX);
        Boundary.failed(two(), "copy 0 0 1 MAX 1", INDEX);
        Boundary.failed(two(), "copy 0 1 1 1 MAX", INDEX);
        Boundary.failed(two(), "copy 0 MAX 1 MAX MAX", INDEX);
    }

    @Holds(promise = 23, to = "of cells from i on also where i is not 0 .. how many there are")
    static void p23_indexOfNoCells() {
        Boundary.failed(two(), "copy 0 6 1 0 0", INDEX);
        Boundary.failed(two(), "copy 0 0 1 4 0", INDEX);
        Boundary.failed(two(), "copy 0 -1 1 0 0", INDEX);
        Boundary.failed(two(), "copy 0 0 1 -1 0", INDEX);
        Boundary.failed(two(), "copy 0 MAX 1 0 0", INDEX);
        Boundary.failed(two(), "copy 0 0 1 MAX 0", INDEX);
    }
}
