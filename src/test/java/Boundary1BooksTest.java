/** Boundary cases of promises 1 to 7: a new object, books, ofLeft, ofRight, letters, price, move. */
public final class Boundary1BooksTest {
    private static final int UNKNOWN = Boundary.UNKNOWN, OUTSIDE = Boundary.OUTSIDE, STATE = Boundary.STATE;
    private static final int NULL = Boundary.NULL, CAST = Boundary.CAST, INDEX = Boundary.INDEX, SIZE = Boundary.SIZE;
    private static final String SEVEN_LEFT = ";P1a;L2b;D3c;P4d;L5-;D6a;P7b";
    private static final String SEVEN_RIGHT = ",9a,8b,7c,6d,5-,4a,3b";

    public static void main(String[] args) throws Exception {
        Boundary.runAll(Boundary1BooksTest.class);
    }

    // ---- promise 1

    @Holds(promise = 1, to = "No BOOKS (no sentences)")
    static void p01_noSentenceIsThere() {
        new Run().due("many 0", 0).due("many 1", 0).due("ofLeft 0 0", UNKNOWN).due("ofRight 0 0", UNKNOWN)
            .due("ofPair 0 0", UNKNOWN).due("best 0", STATE).due("enough", STATE);
    }

    @Holds(promise = 1, to = "SHEETS have nothing")
    static void p01_allFourSheetsHaveNothing() {
        for (int k = 0; k < 4; k++) {
            new Run().due("put " + k + " 0 0", -10 - NULL).due("lose " + k, 0);
        }
    }

    // ---- promise 2: the TEXT

    private static void taken(String text, int sentences) {
        Boundary.due("books by " + text, new Run().text(text), sentences);
    }

    private static void wrongAt(String text, int place) {
        Boundary.due("books by " + text, new Run().text(text), -100 - place);
    }

    @Holds(promise = 2, to = "then 1 to 7 LEFT sentences")
    static void p02_lefts_oneAndSevenAreTaken_noneIsNot() {
        taken("b;P1-,1-", 2);
        taken("b" + SEVEN_LEFT + ",1-", 8);
        wrongAt("b,1-", 1);
    }

    @Holds(promise = 2, to = "then 1 to 7 RIGHT ones")
    static void p02_rights_oneAndSevenAreTaken_noneIsNot() {
        taken("b;P1-" + SEVEN_RIGHT, 8);
        taken("b" + SEVEN_LEFT + SEVEN_RIGHT, 14);
        wrongAt("b;P1-", 5);
        wrongAt("b" + SEVEN_LEFT, 29);
    }

    @Holds(promise = 2, to = "the ; of an eighth LEFT one")
    static void p02_firstFault_theSemicolonOfAnEighthLeftOne() {
        wrongAt("b" + SEVEN_LEFT + ";", 29);
        wrongAt("b" + SEVEN_LEFT + ";P1-,1-", 29);
        wrongAt("b" + SEVEN_LEFT + ";x", 29);
    }

    @Holds(promise = 2, to = "the comma of an eighth RIGHT one")
    static void p02_firstFault_theCommaOfAnEighthRightOne() {
        wrongAt("b;P1-" + SEVEN_RIGHT + ",", 26);
        wrongAt("b;P1-" + SEVEN_RIGHT + ",1-", 26);
        wrongAt("b" + SEVEN_LEFT + SEVEN_RIGHT + ",1-", 50);
    }

    @Holds(promise = 2, to = "how many codes there are, if it just ends too soon")
    static void p02_firstFault_ofEachBeginningThatIsNoText() {
        String text = "b;P1a;L2-,3b,4-";
        for (int n = 0; n < text.length(); n++) {
            if (n != "b;P1a;L2-,3b".length()) {
                wrongAt(text.substring(0, n), n);
            }
        }
        taken("b;P1a;L2-,3b", 3);
        taken(text, 4);
    }

    @Holds(promise = 2, to = "how many codes there are, if it just ends too soon")
    static void p02_firstFault_ofNoCodesAtAll() {
        new Run().with("sheet 0 0 0").due("books 0 0 0 0", -100).due("fault", 0);
    }

    @Holds(promise = 2, to = "the place (from 0 on) of the first code with which no TEXT goes on")
    static void p02_firstFault_theFirstOfSeveral() {
        wrongAt("xyz", 0);
        wrongAt("b;P1-,1-xx", 8);
        wrongAt("b;P1-,1-;P1-", 8);
        wrongAt("b;P0x,0x", 3);
        wrongAt("b;P1-;,1-", 6);
        wrongAt("b;P1-,P1-", 6);
    }

    /** Behind each beginning all codes are tried, in a row of ints. */
    private static void goesOnWith(String beginning, String codes) {
        for (int code = -300; code <= 400; code++) {
            int[] cells = java.util.Arrays.copyOf(beginning.chars().toArray(), beginning.length() + 1);
            cells[beginning.length()] = code;
            long got = new Run().fill(0, 2, cells).call("books 0 2 0 " + cells.length);
            boolean goesOn = code >= 0 && codes.indexOf(code) >= 0;
            boolean isWhole = goesOn && beginning.equals("b;D9a,9");
            long want = isWhole ? 2 : -100 - beginning.length() - (goesOn ? 1 : 0);
            Boundary.due("books by " + beginning + " and code " + code, got, want);
        }
    }

    @Holds(promise = 2, to = "Codes: b 98, the kinds' P 80, L 76, D 68, ; 59, the comma 44, the dash 45, "
        + "a .. d 97 .. 100, digits 49 .. 57.")
    static void p02_codes_thoseThatGoOnAndNoOthers() {
        goesOnWith("", "b");
        goesOnWith("b", ";");
        goesOnWith("b;", "PLD");
        goesOnWith("b;D", "123456789");
        goesOnWith("b;D9", "abcd-");
        goesOnWith("b;D9a", ";,");
        goesOnWith("b;D9a;", "PLD");
        goesOnWith("b;D9a,", "123456789");
        goesOnWith("b;D9a,9", "abcd-");
        goesOnWith("b;D9a,9a", ",");
    }

    @Holds(promise = 2, to = "the place (from 0 on) of the first code with which no TEXT goes on")
    static void p02_codes_farBeyondAllCodes() {
        new Run().fill(0, 2, 98, Integer.MIN_VALUE).due("books 0 2 0 2", -101);
        new Run().fill(0, 2, 98, 59, 80, Integer.MAX_VALUE).due("books 0 2 0 4", -103);
        new Run().fill(0, 2, 98, 59, 80, 49, Integer.MIN_VALUE + 97).due("books 0 2 0 5", -104);
    }

    @Holds(promise = 2, to = "BOOKS by a TEXT of n cells of a SHEET from i on")
    static void p02_textAmidOtherCells() {
        int[] cells = "xxb;D9d,1-x".chars().toArray();
        new Run().fill(3, 1, cells).due("books 3 1 2 8", 2).due("ofLeft 0 1", 9);
        new Run().fill(3, 1, cells).due("books 3 1 2 9", -108);
        new Run().fill(3, 1, cells).due("books 3 1 2 7", -107);
        new Run().fill(3, 1, cells).due("books 3 1 1 10", -100);
    }

    @Holds(promise = 2, to = {"taken as a row of a LANE", "what comes to a cell of it is cut to its LANE"})
    static void p02_codesThatAreCutToALane() {
        int[] cells = "b;P1-,1-".chars().toArray();
        cells[0] += 256;
        new Run().fill(0, 0, cells).due("books 0 0 0 8", 2);
        new Run().fill(0, 1, cells).due("books 0 1 0 8", -100);
        cells[0] += 65536 - 256;
        new Run().fill(0, 1, cells).due("books 0 1 0 8", 2);
        new Run().fill(0, 2, cells).due("books 0 2 0 8", -100);
    }

    @Holds(promise = 2, to = "A TEXT that is taken makes all anew: SKIP is 4, JOIN 1, the BAND 7, no READINGS.")
    static void p02_takenText_makesAllAnew() {
        // BEST is asked for ahead of it, so that one sees that it is found anew.
        Run run = Boundary.ready().due("best 0", 0);
        for (int k = 1; k < 8; k++) {
            run.due("reading 0 0", k);
        }
        Boundary.due("another text", run.text("b;P9-,1-"), 2);
        run.dues("many", 1, 1, 4, 1, 7, 0).due("best 0", 8).due("best 2", 18).due("ofLeft 1 0", UNKNOWN)
            .due("ofRight 1 0", UNKNOWN).due("letterings 0", 1022).due("reading 0 0", 0);
    }

    @Holds(promise = 2, to = "A TEXT that is taken makes all anew")
    static void p02_takenText_ofTheSameSheetTwice() {
        Run run = Run.ofText("b;P3a,5a");
        run.with("letters 0 0 9", "letters 1 0 9", "price 0 0", "move 0 1 0");
        run.due("books 0 0 0 8", 2).due("ofLeft 0 1", 3).due("ofRight 0 0", 5).due("many 2", 4);
    }

    @Holds(promise = 2, to = "-100 less the FIRST FAULT")
    static void p02_wrongText_changesNothing() {
        Run run = Boundary.ready().fill(1, 1, "b;D9d;P1-,1-,x".chars().toArray());
        Boundary.onlyAnswers(run, "books 1 1 0 14", -113);
        Boundary.onlyAnswers(Boundary.ready(), "books 0 0 0 20", -120);
    }

    // ---- promise 2: REFUSALS, FAULTS

    @Holds(promise = 2, to = "UNKNOWN; OUTSIDE: lane")
    static void p02_unknownSheet() {
        for (String sheet : new String[] {"-1", "4", "MIN", "MAX"}) {
            Boundary.refused("books " + sheet + " 0 0 22", UNKNOWN);
        }
        Boundary.refused("books 4 3 -1 -1", UNKNOWN);
    }

    @Holds(promise = 2, to = "OUTSIDE: lane")
    static void p02_outsideLane() {
        for (String lane : new String[] {"-1", "3", "MIN", "MAX"}) {
            Boundary.refused("books 0 " + lane + " 0 22", OUTSIDE);
        }
        Boundary.refused("books 3 3 -1 -1", OUTSIDE);
    }

    @Holds(promise = 2, to = "FAULTS CAST (nothing is no CAST)")
    static void p02_castOfAnotherLane() {
        Boundary.failed("books 0 1 0 22", CAST);
        Boundary.failed("books 0 2 0 22", CAST);
        Boundary.failed("books 1 0 0 4", CAST);
        Boundary.failed("books 2 0 -1 -1", CAST);
    }

    @Holds(promise = 2, to = {"(nothing is no CAST)", "NULL"})
    static void p02_nothingIsNullByEachLane() {
        for (int lane = 0; lane < 3; lane++) {
            Boundary.failed("books 3 " + lane + " 0 0", NULL);
            Boundary.failed("books 3 " + lane + " -1 -1", NULL);
        }
    }

    @Holds(promise = 2, to = "SIZE: n is below 0")
    static void p02_sizeBelow0_aheadOfIndex() {
        Boundary.failed("books 0 0 0 -1", SIZE);
        Boundary.failed("books 0 0 0 MIN", SIZE);
        Boundary.failed("books 0 0 -1 -1", SIZE);
        Boundary.failed("books 0 0 23 -1", SIZE);
    }

    @Holds(promise = 2, to = "INDEX: not all cells are there")
    static void p02_indexOfCellsThatAreNotThere() {
        Boundary.failed("books 0 0 0 23", INDEX);
        Boundary.failed("books 0 0 1 22", INDEX);
        Boundary.failed("books 0 0 -1 22", INDEX);
        Boundary.failed("books 0 0 22 1", INDEX);
        Boundary.failed("books 0 0 MAX 1", INDEX);
        Boundary.failed("books 0 0 MAX MAX", INDEX);
        Boundary.failed("books 0 0 1 MAX", INDEX);
        Boundary.failed("books 0 0 MIN MAX", INDEX);
    }

    @Holds(promise = 2, to = "of cells from i on also where i is not 0 .. how many there are, if none of them is taken")
    static void p02_indexOfNoCells() {
        Boundary.failed("books 0 0 23 0", INDEX);
        Boundary.failed("books 0 0 -1 0", INDEX);
        Boundary.failed("books 0 0 MAX 0", INDEX);
        Boundary.failed("books 0 0 MIN 0", INDEX);
        Boundary.onlyAnswers(Boundary.ready(), "books 0 0 22 0", -100);
    }

    // ---- promise 3

    @Holds(promise = 3, to = {"of a PLAIN one LETTERS", "of a LONG one 1 more",
        "of a DOUBLE one twice what a PLAIN one's is"})
    static void p03_lengthsOfTheFewestAndTheMostLetters() {
        Run run = Run.ofText("b;P1-;P9-;L1-;L9-;D1-;D9-,1-");
        int[] lengths = {1, 9, 2, 10, 2, 18};
        for (int a = 0; a < 6; a++) {
            run.due("ofLeft " + a + " 0", a / 2).due("ofLeft " + a + " 1", a % 2 == 0 ? 1 : 9);
            run.due("ofLeft " + a + " 2", lengths[a]);
        }
    }

    @Holds(promise = 3, to = "3 ANCHOR (0 .. 3; 4: none)")
    static void p03_allAnchorsAndNone() {
        Run run = Run.ofText("b;P1a;P1b;P1c;P1d;P1-,1-");
        for (int a = 0; a < 5; a++) {
            run.due("ofLeft " + a + " 3", a);
        }
    }

    @Holds(promise = 3, to = "4 RIGHT ones that are in one PAIR of BEST with it, as a set")
    static void p03_setOfNoneOneAndTwo() {
        // One with one, one with two, one alone.
        Run.ofText("b;P9a;P9b;P1-,9a,4b,5b").due("best 0", 6).due("ofLeft 0 4", 1).due("ofLeft 1 4", 6)
            .due("ofLeft 2 4", 0);
        Run.ofText("b;P1a;P1b;P1c;P1d;P1a;P1b;P1c,1a,1b,1c,1d,1a,1b,1c").due("ofLeft 6 4", 64);
    }

    @Holds(promise = 3, to = "(0: there is no ALIGNMENT, too)")
    static void p03_setIs0WithoutAlignment() {
        Run run = Run.ofText("b;P1-;P1-,1-").with("price 2 0");
        run.due("best 0", Boundary.NONE).due("ofLeft 0 4", 0).due("ofLeft 1 4", 0);
    }

    @Holds(promise = 3, to = "UNKNOWN; OUTSIDE")
    static void p03_unknownSentence_aheadOfWhat() {
        for (String a : new String[] {"-1", "3", "MIN", "MAX"}) {
            Boundary.refused("ofLeft " + a + " 0", UNKNOWN);
        }
        Boundary.refused("ofLeft 3 5", UNKNOWN);
        Boundary.refused(new Run(), "ofLeft 0 5", UNKNOWN);
    }

    @Holds(promise = 3, to = "OUTSIDE")
    static void p03_outsideWhat() {
        for (String what : new String[] {"-1", "5", "MIN", "MAX"}) {
            Boundary.refused("ofLeft 2 " + what, OUTSIDE);
        }
    }

    // ---- promise 4

    @Holds(promise = 4, to = "1 ANCHOR (0 .. 3; 4: none)")
    static void p04_allAnchorsAndNone_fewestAndMostLetters() {
        Run run = Run.ofText("b;P1-,1a,9b,1c,9d,1-");
        for (int b = 0; b < 5; b++) {
            run.due("ofRight " + b + " 0", b % 2 == 0 ? 1 : 9).due("ofRight " + b + " 1", b);
        }
    }

    @Holds(promise = 4, to = "2 LEFT ones that are in one PAIR of BEST with it, as a set")
    static void p04_setOfNoneOneAndTwo() {
        Run.ofText("b;P9a;P4b;P5b,9a,9b,1-").due("best 0", 6).due("ofRight 0 2", 1).due("ofRight 1 2", 6)
            .due("ofRight 2 2", 0);
        Run.ofText("b;P1a;P1b;P1c;P1d;P1a;P1b;P1c,1a,1b,1c,1d,1a,1b,1c").due("ofRight 6 2", 64);
    }

    @Holds(promise = 4, to = "(0: there is no ALIGNMENT, too)")
    static void p04_setIs0WithoutAlignment() {
        Run.ofText("b;P1-,1-,1-").with("price 2 0").due("ofRight 0 2", 0).due("ofRight 1 2", 0);
    }

    @Holds(promise = 4, to = "UNKNOWN; OUTSIDE")
    static void p04_unknownSentence_aheadOfWhat() {
        for (String b : new String[] {"-1", "3", "MIN", "MAX"}) {
            Boundary.refused("ofRight " + b + " 0", UNKNOWN);
        }
        Boundary.refused("ofRight 3 3", UNKNOWN);
        Boundary.refused(new Run(), "ofRight 0 3", UNKNOWN);
    }

    @Holds(promise = 4, to = "OUTSIDE")
    static void p04_outsideWhat() {
        for (String what : new String[] {"-1", "3", "MIN", "MAX"}) {
            Boundary.refused("ofRight 2 " + what, OUTSIDE);
        }
    }

    // ---- promise 5

    @Holds(promise = 5, to = "become v (1 .. 9): how many they were")
    static void p05_fewestAndMostLetters_ofFirstAndLastOnes() {
        Run run = Run.ofText("b;P2a;D3b,4a,5b");
        run.due("letters 0 0 1", 2).due("letters 0 0 9", 1).due("letters 0 0 9", 9).due("ofLeft 0 1", 9);
        run.due("letters 0 1 9", 3).due("ofLeft 1 2", 18).due("letters 1 0 1", 4).due("letters 1 1 9", 5);
        run.due("ofRight 0 0", 1).due("ofRight 1 0", 9).due("ofRight 1 1", 1).due("ofLeft 1 0", 2);
    }

    @Holds(promise = 5, to = "become v (1 .. 9)")
    static void p05_bestIsThatOfTheNewLetters() {
        Run.ofText("b;P1-,9-").due("best 0", 8).with("letters 0 0 9").due("best 0", 0).with("letters 1 0 8")
            .due("best 0", 1);
    }

    @Holds(promise = 5, to = "OUTSIDE: side; UNKNOWN")
    static void p05_outsideSide_aheadOfUnknown() {
        for (String side : new String[] {"-1", "2", "MIN", "MAX"}) {
            Boundary.refused("letters " + side + " 0 1", OUTSIDE);
        }
        Boundary.refused("letters 2 9 0", OUTSIDE);
        Boundary.refused(new Run(), "letters 2 0 1", OUTSIDE);
    }

    @Holds(promise = 5, to = "UNKNOWN; OUTSIDE: v")
    static void p05_unknownSentence_aheadOfV() {
        for (String k : new String[] {"-1", "3", "MIN", "MAX"}) {
            Boundary.refused("letters 0 " + k + " 1", UNKNOWN);
            Boundary.refused("letters 1 " + k + " 1", UNKNOWN);
        }
        Boundary.refused("letters 0 3 0", UNKNOWN);
        Boundary.refused(new Run(), "letters 1 0 10", UNKNOWN);
        // As many as the other book has are not enough.
        Boundary.refused(Run.ofText("b;P1-;P1-,1-"), "letters 1 1 1", UNKNOWN);
        Boundary.refused(Run.ofText("b;P1-,1-,1-"), "letters 0 1 1", UNKNOWN);
    }

    @Holds(promise = 5, to = "OUTSIDE: v")
    static void p05_outsideV() {
        for (String v : new String[] {"0", "10", "-1", "MIN", "MAX"}) {
            Boundary.refused("letters 0 2 " + v, OUTSIDE);
            Boundary.refused("letters 1 2 " + v, OUTSIDE);
        }
    }

    // ---- promise 6

    @Holds(promise = 6, to = "SKIP (what 0, 0 .. 9), JOIN (1, 0 .. 9), the BAND (2, 0 .. 7) becomes v: what it was")
    static void p06_leastAndHighestOfEach() {
        Run run = Run.ofText("b;P1-,1-");
        run.due("price 0 0", 4).due("price 0 9", 0).due("price 0 9", 9).due("many 2", 9);
        run.due("price 1 9", 1).due("price 1 0", 9).due("many 3", 0);
        run.due("price 2 0", 7).due("price 2 7", 0).due("many 4", 7).due("many 2", 9);
    }

    @Holds(promise = 6, to = "OUTSIDE: what; STATE: there are no BOOKS")
    static void p06_outsideWhat_aheadOfState() {
        for (String what : new String[] {"-1", "3", "MIN", "MAX"}) {
            Boundary.refused("price " + what + " 1", OUTSIDE);
        }
        Boundary.refused(new Run(), "price 3 1", OUTSIDE);
    }

    @Holds(promise = 6, to = "STATE: there are no BOOKS; OUTSIDE: v")
    static void p06_stateWithoutBooks_aheadOfV() {
        for (int what = 0; what < 3; what++) {
            Boundary.refused(new Run(), "price " + what + " 1", STATE);
            Boundary.refused(new Run(), "price " + what + " 10", STATE);
        }
    }

    @Holds(promise = 6, to = "OUTSIDE: v")
    static void p06_outsideV() {
        for (String v : new String[] {"-1", "10", "MIN", "MAX"}) {
            Boundary.refused("price 0 " + v, OUTSIDE);
            Boundary.refused("price 1 " + v, OUTSIDE);
            Boundary.refused("price 2 " + v, OUTSIDE);
        }
        Boundary.refused("price 2 8", OUTSIDE);
    }

    // ---- promise 7

    private static void moved(String call, String rights) {
        Run run = Run.ofText("b;P1-,1a,2b,3c,4d,5-,6a,7b");
        run.due(call, Integer.parseInt(call.split(" ")[2]));
        StringBuilder got = new StringBuilder();
        for (int b = 0; b < 7; b++) {
            got.append(run.call("ofRight " + b + " 0"));
            long anchor = run.call("ofRight " + b + " 1");
            Boundary.due(call + ": anchor goes with letters", anchor, "1a2b3c4d5e6a7b".charAt(
                (int) (2 * run.call("ofRight " + b + " 0") - 1)) - 'a');
        }
        Boundary.due(call, Integer.parseInt(got.toString()), Integer.parseInt(rights));
    }

    @Holds(promise = 7, to = {"is MOVED to t (0 .. how many others there are): n",
        "it is taken out, and put in again so that t others are ahead of it"})
    static void p07_toTheBeginningToTheEndAndToWhereItIs() {
        moved("move 0 1 0", "1234567");
        moved("move 0 1 6", "2345671");
        moved("move 6 1 0", "7123456");
        moved("move 6 1 6", "1234567");
        moved("move 0 6 1", "7123456");
        moved("move 1 6 0", "2345671");
        moved("move 2 3 0", "3451267");
        moved("move 2 3 1", "1345267");
        moved("move 2 3 2", "1234567");
        moved("move 2 3 3", "1263457");
        moved("move 2 3 4", "1267345");
    }

    @Holds(promise = 7, to = "A CHAPTER of n (1 and more) RIGHT sentences")
    static void p07_allOfThem() {
        moved("move 0 7 0", "1234567");
        Run.ofText("b;P1-,3a").due("move 0 1 0", 1).due("ofRight 0 0", 3);
    }

    @Holds(promise = 7, to = "is MOVED to t")
    static void p07_bestIsThatOfTheMovedOnes() {
        Run.ofText("b;P1a;P9b,9b,1a").due("best 0", 10).due("move 1 1 0", 1).due("best 0", 0);
    }

    @Holds(promise = 7, to = "it is taken out, and put in again so that t others are ahead of it")
    static void p07_movedTwice_andBehindNewLetters() {
        Run run = Run.ofText("b;P1-,1a,2b,3c").with("letters 1 0 9", "move 0 1 2", "letters 1 0 8", "move 1 2 0");
        run.due("ofRight 0 0", 3).due("ofRight 1 0", 9).due("ofRight 2 0", 8);
        run.due("ofRight 0 1", 2).due("ofRight 1 1", 0).due("ofRight 2 1", 1);
    }

    @Holds(promise = 7, to = "OUTSIDE: n is below 1; UNKNOWN")
    static void p07_outsideN_aheadOfUnknown() {
        for (String n : new String[] {"0", "-1", "MIN"}) {
            Boundary.refused("move 0 " + n + " 0", OUTSIDE);
        }
        Boundary.refused("move 9 0 9", OUTSIDE);
        Boundary.refused(new Run(), "move 0 0 0", OUTSIDE);
    }

    @Holds(promise = 7, to = "UNKNOWN: not all are there; OUTSIDE: t")
    static void p07_unknownOnes_aheadOfT() {
        Boundary.refused("move -1 1 0", UNKNOWN);
        Boundary.refused("move -1 2 0", UNKNOWN);
        Boundary.refused("move 3 1 0", UNKNOWN);
        Boundary.refused("move 0 4 0", UNKNOWN);
        Boundary.refused("move 2 2 0", UNKNOWN);
        Boundary.refused("move 1 MAX 0", UNKNOWN);
        Boundary.refused("move MAX 1 0", UNKNOWN);
        Boundary.refused("move MAX MAX 0", UNKNOWN);
        Boundary.refused("move MIN MAX 0", UNKNOWN);
        Boundary.refused("move 2 2 -1", UNKNOWN);
        Boundary.refused(new Run(), "move 0 1 0", UNKNOWN);
    }

    @Holds(promise = 7, to = "OUTSIDE: t")
    static void p07_outsideT() {
        Boundary.refused("move 0 1 3", OUTSIDE);
        Boundary.refused("move 0 2 2", OUTSIDE);
        Boundary.refused("move 0 3 1", OUTSIDE);
        for (String t : new String[] {"-1", "MIN", "MAX"}) {
            Boundary.refused("move 1 1 " + t, OUTSIDE);
        }
    }
}
