import java.util.Arrays;

/** Two books aligned, sentence by sentence. The words of the comments are those of the document. */
public final class BookPairs {
    public static final int UNKNOWN = -1, OUTSIDE = -2, STATE = -3, FULL = -4, NONE = -9;
    public static final long LOST = Long.MIN_VALUE;

    private static final int NO_FAULT = 0, NULL = 1, CAST = 2, INDEX = 3, SIZE = 4;
    private static final int FAULT_BASE = -10, PLACE_BASE = -100;

    private static final int BYTES = 0, SHORTS = 1, LANES = 3;
    private static final int SHEETS = 4, MOST_CELLS = 60;

    private static final int PLAIN = 0, LONG = 1, DOUBLE = 2, KINDS = 3;
    private static final int MOST_SENTENCES = 7, MOST_LETTERS = 9, NO_ANCHOR = 4;
    private static final int LEFT = 0, RIGHT = 1;

    private static final int SKIP = 0, JOIN = 1, BAND = 2;
    private static final int HIGHEST_PRICE = 9, WIDEST_BAND = 7;

    private static final int LEFT_ALONE = 1, RIGHT_ALONE = 2, TWO_LEFT = 3, TWO_RIGHT = 4, SORTS = 5;
    private static final int[] LEFTS_OF_SORT = {1, 1, 0, 2, 1};
    private static final int[] RIGHTS_OF_SORT = {1, 0, 1, 1, 2};
    private static final int UNLIKE_ANCHORS = 3;

    /** A place of the alignment's table is (LEFT ones taken) * ROW + (RIGHT ones taken). */
    private static final int ROW = MOST_SENTENCES + 1, PLACES = ROW * ROW;
    private static final int[] STEP_OF_SORT = {ROW + 1, ROW, 1, 2 * ROW + 1, ROW + 2};
    private static final int MOST_PAIRS = 2 * MOST_SENTENCES;
    /** Far above what any ALIGNMENT costs, and far below where ints wrap. */
    private static final int FAR = 1000000;

    private static final int MOST_ACTS = 20, ACT_ON_RIGHT = 10, ACT_ON_PRICE = 20;
    private static final int ASKS_LEFT = 10;
    private static final int MOST_READINGS = 8, HIGHEST_READING = 500;

    private final Sheet[] sheets = new Sheet[SHEETS];
    private final Books now = new Books();
    /** BOOKS that are only supposed: a TEXT that is being taken, a DAY, another kind of a sentence. */
    private final Books supposed = new Books();
    private final Aligner bestOfNow = new Aligner();
    private final Aligner trial = new Aligner();
    private final TextTaker textTaker = new TextTaker();
    private final int[] readingBands = new int[MOST_READINGS];
    private final int[] readingCosts = new int[MOST_READINGS];
    private int readingCount;
    /** Whether bestOfNow still tells of the BOOKS as they are now. */
    private boolean aligned;
    private int trace;
    private int fault;

    public BookPairs() {
        for (int k = 0; k < SHEETS; k++) {
            sheets[k] = new Sheet();
        }
    }

    // ---- 1 books

    public int books(int sheet, int lane, int i, int n) {
        fault = NO_FAULT;
        if (!isSheet(sheet)) {
            return UNKNOWN;
        }
        if (!isLane(lane)) {
            return OUTSIDE;
        }
        Sheet row = sheets[sheet];
        int found = row.faultAs(lane);
        if (found == NO_FAULT && n < 0) {
            found = SIZE;
        }
        if (found == NO_FAULT && !row.hasCells(i, n)) {
            found = INDEX;
        }
        if (found != NO_FAULT) {
            return failed(found);
        }
        int firstFault = textTaker.firstFault(row, i, n, supposed);
        if (firstFault != NONE) {
            return PLACE_BASE - firstFault;
        }
        now.becomeLike(supposed);
        readingCount = 0;
        aligned = false;
        return now.leftCount + now.rightCount;
    }

    public int ofLeft(int a, int what) {
        if (!now.hasLeft(a)) {
            return UNKNOWN;
        }
        switch (what) {
            case 0:
                return now.leftKinds[a];
            case 1:
                return now.leftLetters[a];
            case 2:
                return now.leftLength(a);
            case 3:
                return now.leftAnchors[a];
            case 4:
                return alignmentOfNow().rightsWith(a);
            default:
                return OUTSIDE;
        }
    }

    public int ofRight(int b, int what) {
        if (!now.hasRight(b)) {
            return UNKNOWN;
        }
        switch (what) {
            case 0:
                return now.rightLetters[b];
            case 1:
                return now.rightAnchors[b];
            case 2:
                return alignmentOfNow().leftsWith(b);
            default:
                return OUTSIDE;
        }
    }

    public int letters(int side, int k, int v) {
        if (side != LEFT && side != RIGHT) {
            return OUTSIDE;
        }
        if (side == LEFT ? !now.hasLeft(k) : !now.hasRight(k)) {
            return UNKNOWN;
        }
        if (!isLetters(v)) {
            return OUTSIDE;
        }
        int[] row = side == LEFT ? now.leftLetters : now.rightLetters;
        int before = row[k];
        row[k] = v;
        aligned = false;
        return before;
    }

    public int price(int what, int v) {
        if (what < SKIP || what > BAND) {
            return OUTSIDE;
        }
        if (!now.areThere()) {
            return STATE;
        }
        if (!isPrice(what, v)) {
            return OUTSIDE;
        }
        int before = now.priceOf(what);
        now.setPrice(what, v);
        aligned = false;
        return before;
    }

    public int move(int b, int n, int t) {
        if (n < 1) {
            return OUTSIDE;
        }
        if (!now.hasRight(b) || n > now.rightCount - b) {
            return UNKNOWN;
        }
        if (t < 0 || t > now.rightCount - n) {
            return OUTSIDE;
        }
        supposed.becomeLike(now);
        now.takeMoved(supposed, b, n, t);
        aligned = false;
        return n;
    }

    // ---- 2 alignments

    public int best(int what) {
        if (what < 0 || what > 3) {
            return OUTSIDE;
        }
        return now.areThere() ? alignmentOfNow().answer(what) : STATE;
    }

    public int ofPair(int k, int what) {
        Aligner alignment = alignmentOfNow();
        if (k < 0 || k >= alignment.pairCount) {
            return UNKNOWN;
        }
        switch (what) {
            case 0:
                return alignment.sorts[k];
            case 1:
                return alignment.leftsAhead[k];
            case 2:
                return alignment.rightsAhead[k];
            case 3:
                return alignment.costOfPair(k);
            default:
                return OUTSIDE;
        }
    }

    public int cost(int sort, int a, int b) {
        if (!isSort(sort)) {
            return OUTSIDE;
        }
        return now.hasPair(sort, a, b) ? now.pairCost(sort, a, b) : UNKNOWN;
    }

    public int day(int sheet, int lane, int i, int n, int what) {
        fault = NO_FAULT;
        if (!isSheet(sheet)) {
            return UNKNOWN;
        }
        if (!isLane(lane) || n < 0 || n > MOST_ACTS || !isAskedOfDay(what)) {
            return OUTSIDE;
        }
        Sheet row = sheets[sheet];
        int found = row.faultAs(lane);
        if (found == NO_FAULT && !row.hasCells(i, 2 * n)) {
            found = INDEX;
        }
        if (found != NO_FAULT) {
            return failed(found);
        }
        if (!now.areThere()) {
            return STATE;
        }
        if (!areActs(row, i, n)) {
            return OUTSIDE;
        }
        return answerOfDay(supposeDay(row, i, n), what);
    }

    // ---- 3 the band

    public int by(int w) {
        if (!isPrice(BAND, w)) {
            return OUTSIDE;
        }
        if (!now.areThere()) {
            return STATE;
        }
        trial.take(now);
        return trial.leastBy(w);
    }

    public int enough() {
        if (!now.areThere()) {
            return STATE;
        }
        trial.take(now);
        int least = trial.leastBy(WIDEST_BAND);
        int w = 0;
        while (w < WIDEST_BAND && trial.leastBy(w) != least) {
            w++;
        }
        return w;
    }

    // ---- 4 what it costs

    public int reading(int w, int c) {
        if (!now.areThere()) {
            return STATE;
        }
        if (!isPrice(BAND, w) || (c != NONE && (c < 0 || c > HIGHEST_READING))) {
            return OUTSIDE;
        }
        if (readingCount >= MOST_READINGS) {
            return FULL;
        }
        readingBands[readingCount] = w;
        readingCosts[readingCount] = c;
        readingCount++;
        return readingCount - 1;
    }

    public int back(int n) {
        if (n < 0 || n > readingCount) {
            return OUTSIDE;
        }
        readingCount -= n;
        return readingCount;
    }

    public int kinds(int a) {
        if (!now.hasLeft(a)) {
            return UNKNOWN;
        }
        supposed.becomeLike(now);
        int set = 0;
        for (int kind = PLAIN; kind < KINDS; kind++) {
            supposed.leftKinds[a] = kind;
            if (readingsHoldIfSupposed()) {
                set |= 1 << kind;
            }
        }
        return set;
    }

    public int letterings(int a) {
        if (!now.hasLeft(a)) {
            return UNKNOWN;
        }
        supposed.becomeLike(now);
        int set = 0;
        for (int v = 1; v <= MOST_LETTERS; v++) {
            supposed.leftLetters[a] = v;
            if (readingsHoldIfSupposed()) {
                set |= 1 << v;
            }
        }
        return set;
    }

    public long odds(int sort, int which) {
        if (!isSort(sort) || which < 0 || which > 1) {
            return LOST;
        }
        Aligner alignment = alignmentOfNow();
        int all = alignment.pairCount;
        if (all < 1) {
            return LOST;
        }
        int some = alignment.howManyOf(sort);
        int divisor = commonDivisor(some, all);
        return which == 0 ? some / divisor : all / divisor;
    }

    // ---- 5 sheets, parts

    public int sheet(int k, int lane, int n) {
        fault = NO_FAULT;
        if (!isSheet(k)) {
            return UNKNOWN;
        }
        if (!isLane(lane) || n > MOST_CELLS) {
            return OUTSIDE;
        }
        if (n < 0) {
            return failed(SIZE);
        }
        sheets[k].begin(lane, n);
        return 1;
    }

    public int lose(int k) {
        if (!isSheet(k)) {
            return UNKNOWN;
        }
        boolean had = sheets[k].there;
        sheets[k].there = false;
        return had ? 1 : 0;
    }

    public int put(int k, int i, int v) {
        fault = NO_FAULT;
        if (!isSheet(k)) {
            return UNKNOWN;
        }
        Sheet row = sheets[k];
        if (!row.there) {
            return failed(NULL);
        }
        if (!row.hasCells(i, 1)) {
            return failed(INDEX);
        }
        row.cells[i] = row.cut(v);
        return 1;
    }

    public long cell(int k, int i, int lane) {
        fault = NO_FAULT;
        if (!isSheet(k) || !isLane(lane)) {
            return LOST;
        }
        Sheet row = sheets[k];
        fault = row.faultAs(lane);
        if (fault == NO_FAULT && !row.hasCells(i, 1)) {
            fault = INDEX;
        }
        return fault == NO_FAULT ? row.cells[i] : LOST;
    }

    public int copy(int k, int i, int other, int j, int n) {
        fault = NO_FAULT;
        if (!isSheet(k) || !isSheet(other)) {
            return UNKNOWN;
        }
        Sheet from = sheets[k];
        Sheet to = sheets[other];
        if (!from.there || !to.there) {
            return failed(NULL);
        }
        if (from.lane != to.lane) {
            return failed(CAST);
        }
        if (!from.hasCells(i, n) || !to.hasCells(j, n)) {
            return failed(INDEX);
        }
        System.arraycopy(from.cells, i, to.cells, j, n);
        return n;
    }

    public int tell(int a) {
        if (!now.hasLeft(a)) {
            return UNKNOWN;
        }
        switch (now.leftKinds[a]) {
            case DOUBLE:
                return doubleBody(a);
            case LONG:
                return longBody(a);
            default:
                return plainBody(a);
        }
    }

    public int read(int a) {
        if (!now.hasLeft(a)) {
            return UNKNOWN;
        }
        return now.leftKinds[a] == DOUBLE ? doublesOwnBody(a) : lentBody(a);
    }

    public int as(int a, int kind) {
        fault = NO_FAULT;
        if (!now.hasLeft(a)) {
            return UNKNOWN;
        }
        if (kind < PLAIN || kind > DOUBLE) {
            return OUTSIDE;
        }
        // Each kind is also all kinds below it.
        return now.leftKinds[a] >= kind ? 1 : failed(CAST);
    }

    public int trace() {
        return trace;
    }

    public int fault() {
        return fault;
    }

    public int many(int what) {
        switch (what) {
            case 0:
                return now.leftCount;
            case 1:
                return now.rightCount;
            case 2:
                return now.skip;
            case 3:
                return now.join;
            case 4:
                return now.band;
            case 5:
                return readingCount;
            default:
                return OUTSIDE;
        }
    }

    // ---- what numbers may be

    private static boolean isSheet(int k) {
        return k >= 0 && k < SHEETS;
    }

    private static boolean isLane(int lane) {
        return lane >= 0 && lane < LANES;
    }

    private static boolean isSort(int sort) {
        return sort >= 0 && sort < SORTS;
    }

    private static boolean isLetters(int v) {
        return v >= 1 && v <= MOST_LETTERS;
    }

    private static boolean isPrice(int what, int v) {
        return v >= 0 && v <= (what == BAND ? WIDEST_BAND : HIGHEST_PRICE);
    }

    private static boolean isAskedOfDay(int what) {
        return what >= 0 && what <= 4 || what >= ASKS_LEFT && what < ASKS_LEFT + MOST_SENTENCES;
    }

    /** What an act may be, whether there is such a sentence or not. */
    private static boolean isAct(int v, int on) {
        if (on >= ACT_ON_PRICE && on <= ACT_ON_PRICE + BAND) {
            return isPrice(on - ACT_ON_PRICE, v);
        }
        boolean onLeft = on >= 0 && on < MOST_SENTENCES;
        boolean onRight = on >= ACT_ON_RIGHT && on < ACT_ON_RIGHT + MOST_SENTENCES;
        return (onLeft || onRight) && isLetters(v);
    }

    private static boolean areActs(Sheet row, int from, int n) {
        for (int k = 0; k < n; k++) {
            if (!isAct(row.cells[from + 2 * k], row.cells[from + 2 * k + 1])) {
                return false;
            }
        }
        return true;
    }

    // ---- what the calls share

    private int failed(int found) {
        fault = found;
        return FAULT_BASE - found;
    }

    private Aligner alignmentOfNow() {
        if (!aligned) {
            bestOfNow.align(now);
            aligned = true;
        }
        return bestOfNow;
    }

    /** Supposes the BOOKS as they are behind a DAY; its FIRST WRONG, or NONE. */
    private int supposeDay(Sheet row, int from, int n) {
        supposed.becomeLike(now);
        for (int k = 0; k < n; k++) {
            if (!supposed.takeAct(row.cells[from + 2 * k], row.cells[from + 2 * k + 1])) {
                return k;
            }
        }
        return NONE;
    }

    private int answerOfDay(int firstWrong, int what) {
        if (what == 1) {
            return firstWrong;
        }
        if (firstWrong != NONE) {
            return PLACE_BASE - firstWrong;
        }
        if (what >= ASKS_LEFT && !supposed.hasLeft(what - ASKS_LEFT)) {
            return NONE;
        }
        trial.align(supposed);
        if (what >= ASKS_LEFT) {
            return trial.rightsWith(what - ASKS_LEFT);
        }
        // A DAY asks for FIRST WRONG as 1, so all behind COST is 1 more than with best.
        return trial.answer(what == 0 ? 0 : what - 1);
    }

    private boolean readingsHoldIfSupposed() {
        trial.take(supposed);
        for (int k = 0; k < readingCount; k++) {
            if (trial.leastBy(readingBands[k]) != readingCosts[k]) {
                return false;
            }
        }
        return true;
    }

    /** The greatest one; all is above 0. */
    private static int commonDivisor(int some, int all) {
        int divisor = all;
        while (divisor > 1 && (some % divisor != 0 || all % divisor != 0)) {
            divisor--;
        }
        return divisor;
    }

    private void leaveTrace(int body) {
        trace = 31 * trace + body;
    }

    private int plainBody(int a) {
        leaveTrace(1);
        return now.leftLetters[a];
    }

    private int longBody(int a) {
        leaveTrace(2);
        return plainBody(a) + 100;
    }

    private int doubleBody(int a) {
        leaveTrace(3);
        int byLong = longBody(a);
        return byLong + plainBody(a);
    }

    private int lentBody(int a) {
        leaveTrace(4);
        return now.leftAnchors[a];
    }

    private int doublesOwnBody(int a) {
        leaveTrace(5);
        return lentBody(a) + 80;
    }

    /** A row of cells of a LANE, or nothing. */
    private static final class Sheet {
        final int[] cells = new int[MOST_CELLS];
        boolean there;
        int lane;
        int size;

        void begin(int newLane, int newSize) {
            there = true;
            lane = newLane;
            size = newSize;
            Arrays.fill(cells, 0);
        }

        /** The FAULT of taking what is here as a row of a LANE. */
        int faultAs(int wanted) {
            if (!there) {
                return NULL;
            }
            return lane == wanted ? NO_FAULT : CAST;
        }

        boolean hasCells(int from, int n) {
            return from >= 0 && n >= 0 && from <= size && n <= size - from;
        }

        int cut(int v) {
            if (lane == BYTES) {
                return (byte) v;
            }
            return lane == SHORTS ? (short) v : v;
        }
    }

    /** The sentences of both BOOKS, and what PAIRS of them cost. */
    private static final class Books {
        final int[] leftKinds = new int[MOST_SENTENCES];
        final int[] leftLetters = new int[MOST_SENTENCES];
        final int[] leftAnchors = new int[MOST_SENTENCES];
        final int[] rightLetters = new int[MOST_SENTENCES];
        final int[] rightAnchors = new int[MOST_SENTENCES];
        int leftCount;
        int rightCount;
        int skip;
        int join;
        int band;

        /** No sentences yet, prices as a TEXT begins with. */
        void begin() {
            leftCount = 0;
            rightCount = 0;
            skip = 4;
            join = 1;
            band = WIDEST_BAND;
        }

        void becomeLike(Books other) {
            leftCount = other.leftCount;
            rightCount = other.rightCount;
            skip = other.skip;
            join = other.join;
            band = other.band;
            System.arraycopy(other.leftKinds, 0, leftKinds, 0, MOST_SENTENCES);
            System.arraycopy(other.leftLetters, 0, leftLetters, 0, MOST_SENTENCES);
            System.arraycopy(other.leftAnchors, 0, leftAnchors, 0, MOST_SENTENCES);
            System.arraycopy(other.rightLetters, 0, rightLetters, 0, MOST_SENTENCES);
            System.arraycopy(other.rightAnchors, 0, rightAnchors, 0, MOST_SENTENCES);
        }

        boolean areThere() {
            return leftCount > 0;
        }

        boolean hasLeft(int a) {
            return a >= 0 && a < leftCount;
        }

        boolean hasRight(int b) {
            return b >= 0 && b < rightCount;
        }

        int leftLength(int a) {
            switch (leftKinds[a]) {
                case DOUBLE:
                    return 2 * leftLetters[a];
                case LONG:
                    return leftLetters[a] + 1;
                default:
                    return leftLetters[a];
            }
        }

        int priceOf(int what) {
            switch (what) {
                case SKIP:
                    return skip;
                case JOIN:
                    return join;
                default:
                    return band;
            }
        }

        void setPrice(int what, int v) {
            switch (what) {
                case SKIP:
                    skip = v;
                    break;
                case JOIN:
                    join = v;
                    break;
                default:
                    band = v;
                    break;
            }
        }

        /** One act of a DAY; false: there is no such sentence. */
        boolean takeAct(int v, int on) {
            if (on >= ACT_ON_PRICE) {
                setPrice(on - ACT_ON_PRICE, v);
                return true;
            }
            if (on >= ACT_ON_RIGHT) {
                if (!hasRight(on - ACT_ON_RIGHT)) {
                    return false;
                }
                rightLetters[on - ACT_ON_RIGHT] = v;
                return true;
            }
            if (!hasLeft(on)) {
                return false;
            }
            leftLetters[on] = v;
            return true;
        }

        /** RIGHT sentences become those of other BOOKS, n of them from b on MOVED to t. */
        void takeMoved(Books other, int b, int n, int t) {
            for (int k = 0; k < rightCount; k++) {
                int from;
                if (k >= t && k < t + n) {
                    from = b + k - t;
                } else {
                    int amongOthers = k < t ? k : k - n;
                    from = amongOthers < b ? amongOthers : amongOthers + n;
                }
                rightLetters[k] = other.rightLetters[from];
                rightAnchors[k] = other.rightAnchors[from];
            }
        }

        boolean hasPair(int sort, int a, int b) {
            int lefts = LEFTS_OF_SORT[sort];
            int rights = RIGHTS_OF_SORT[sort];
            boolean hasLefts = lefts == 0 || hasLeft(a) && lefts <= leftCount - a;
            boolean hasRights = rights == 0 || hasRight(b) && rights <= rightCount - b;
            return hasLefts && hasRights;
        }

        /** COST of a PAIR whose sentences are all there. */
        int pairCost(int sort, int a, int b) {
            if (sort == LEFT_ALONE) {
                return skip + leftLength(a);
            }
            if (sort == RIGHT_ALONE) {
                return skip + rightLetters[b];
            }
            int leftLength = leftLength(a);
            int leftAnchorSet = anchorSet(leftAnchors[a]);
            int rightLength = rightLetters[b];
            int rightAnchorSet = anchorSet(rightAnchors[b]);
            int joined = 0;
            if (sort == TWO_LEFT) {
                leftLength += leftLength(a + 1);
                leftAnchorSet |= anchorSet(leftAnchors[a + 1]);
                joined = join;
            }
            if (sort == TWO_RIGHT) {
                rightLength += rightLetters[b + 1];
                rightAnchorSet |= anchorSet(rightAnchors[b + 1]);
                joined = join;
            }
            int unlike = leftAnchorSet == rightAnchorSet ? 0 : UNLIKE_ANCHORS;
            return Math.abs(leftLength - rightLength) + unlike + joined;
        }

        private static int anchorSet(int anchor) {
            return anchor == NO_ANCHOR ? 0 : 1 << anchor;
        }
    }

    /** Takes a TEXT code by code. */
    private static final class TextTaker {
        private static final int BEGINNING = 0, FIRST_LEFT = 1, LEFT_KIND = 2, LEFT_DIGIT = 3, LEFT_ANCHOR = 4,
                BEHIND_LEFT = 5, RIGHT_DIGIT = 6, RIGHT_ANCHOR = 7, BEHIND_RIGHT = 8;
        int awaits;

        /** Fills the BOOKS; the FIRST FAULT, or NONE. */
        int firstFault(Sheet row, int from, int n, Books into) {
            into.begin();
            awaits = BEGINNING;
            for (int k = 0; k < n; k++) {
                if (!goesOn(row.cells[from + k], into)) {
                    return k;
                }
            }
            return awaits == BEHIND_RIGHT ? NONE : n;
        }

        private boolean goesOn(int code, Books into) {
            switch (awaits) {
                case BEGINNING:
                    awaits = FIRST_LEFT;
                    return code == 'b';
                case FIRST_LEFT:
                    awaits = LEFT_KIND;
                    return code == ';';
                case BEHIND_LEFT:
                    awaits = code == ';' ? LEFT_KIND : RIGHT_DIGIT;
                    return code == ',' || code == ';' && into.leftCount < MOST_SENTENCES;
                case BEHIND_RIGHT:
                    awaits = RIGHT_DIGIT;
                    return code == ',' && into.rightCount < MOST_SENTENCES;
                case LEFT_KIND:
                case LEFT_DIGIT:
                case LEFT_ANCHOR:
                    return goesOnInLeft(code, into);
                default:
                    return goesOnInRight(code, into);
            }
        }

        private boolean goesOnInLeft(int code, Books into) {
            int a = into.leftCount;
            if (a >= MOST_SENTENCES) {
                return false;
            }
            if (awaits == LEFT_KIND) {
                awaits = LEFT_DIGIT;
                into.leftKinds[a] = kindOf(code);
                return into.leftKinds[a] != NONE;
            }
            if (awaits == LEFT_DIGIT) {
                awaits = LEFT_ANCHOR;
                into.leftLetters[a] = code - '0';
                return isDigit(code);
            }
            awaits = BEHIND_LEFT;
            into.leftAnchors[a] = anchorOf(code);
            into.leftCount++;
            return into.leftAnchors[a] != NONE;
        }

        private boolean goesOnInRight(int code, Books into) {
            int b = into.rightCount;
            if (b >= MOST_SENTENCES) {
                return false;
            }
            if (awaits == RIGHT_DIGIT) {
                awaits = RIGHT_ANCHOR;
                into.rightLetters[b] = code - '0';
                return isDigit(code);
            }
            awaits = BEHIND_RIGHT;
            into.rightAnchors[b] = anchorOf(code);
            into.rightCount++;
            return into.rightAnchors[b] != NONE;
        }

        private static boolean isDigit(int code) {
            return code >= '1' && code <= '9';
        }

        private static int kindOf(int code) {
            switch (code) {
                case 'P':
                    return PLAIN;
                case 'L':
                    return LONG;
                case 'D':
                    return DOUBLE;
                default:
                    return NONE;
            }
        }

        private static int anchorOf(int code) {
            if (code == '-') {
                return NO_ANCHOR;
            }
            return code >= 'a' && code <= 'd' ? code - 'a' : NONE;
        }
    }

    /**
     * ALIGNMENTS of BOOKS. Each table tells, of each place, what ALIGNMENTS do from there on to the end,
     * so that BEST, that looks at the first PAIR first, can be walked from the beginning.
     */
    private static final class Aligner {
        /** COST of the PAIR of each SORT that begins at a place; FAR: there is none. */
        final int[] pairCosts = new int[SORTS * PLACES];
        final int[] leastCosts = new int[PLACES];
        final int[] nextCosts = new int[PLACES];
        final int[] alikes = new int[PLACES];
        final int[] firstSorts = new int[PLACES];
        final int[] sorts = new int[MOST_PAIRS];
        final int[] leftsAhead = new int[MOST_PAIRS];
        final int[] rightsAhead = new int[MOST_PAIRS];
        int leftCount;
        int rightCount;
        int pairCount;

        void align(Books books) {
            take(books);
            leastBy(books.band);
            fillOthers();
            walkBest();
        }

        void take(Books books) {
            leftCount = books.leftCount;
            rightCount = books.rightCount;
            for (int a = 0; a <= leftCount; a++) {
                for (int b = 0; b <= rightCount; b++) {
                    for (int sort = 0; sort < SORTS; sort++) {
                        int cost = books.hasPair(sort, a, b) ? books.pairCost(sort, a, b) : FAR;
                        pairCosts[sort * PLACES + a * ROW + b] = cost;
                    }
                }
            }
        }

        /** The least COST by a BAND of the BOOKS that were taken, or NONE. */
        int leastBy(int band) {
            for (int a = leftCount; a >= 0; a--) {
                for (int b = rightCount; b >= 0; b--) {
                    int place = a * ROW + b;
                    leastCosts[place] = FAR;
                    if (Math.abs(a - b) <= band) {
                        fillLeast(place);
                    }
                }
            }
            return orNone(leastCosts[0]);
        }

        private void fillLeast(int place) {
            int least = place == end() ? 0 : FAR;
            for (int sort = 0; sort < SORTS; sort++) {
                int cost = pairCosts[sort * PLACES + place];
                if (cost < FAR) {
                    cost += leastCosts[place + STEP_OF_SORT[sort]];
                }
                if (cost < least) {
                    least = cost;
                    firstSorts[place] = sort;
                }
            }
            leastCosts[place] = least;
        }

        /** NEXT and ALIKE, by the BAND by which the least COST was found. */
        private void fillOthers() {
            for (int a = leftCount; a >= 0; a--) {
                for (int b = rightCount; b >= 0; b--) {
                    fillOthersAt(a * ROW + b);
                }
            }
        }

        private void fillOthersAt(int place) {
            nextCosts[place] = FAR;
            alikes[place] = 0;
            if (leastCosts[place] >= FAR) {
                return;
            }
            if (place == end()) {
                alikes[place] = 1;
            }
            for (int sort = 0; sort < SORTS; sort++) {
                int cost = pairCosts[sort * PLACES + place];
                if (cost < FAR) {
                    addOthers(place, sort, cost, place + STEP_OF_SORT[sort]);
                }
            }
        }

        private void addOthers(int place, int sort, int cost, int behind) {
            int least = cost + leastCosts[behind];
            if (least == leastCosts[place]) {
                alikes[place] += alikes[behind];
            }
            // All that begin with BEST's own PAIR are other ones, but for the cheapest of them.
            int other = sort == firstSorts[place] ? cost + nextCosts[behind] : least;
            nextCosts[place] = Math.min(nextCosts[place], other);
        }

        private void walkBest() {
            pairCount = 0;
            if (leastCosts[0] >= FAR) {
                return;
            }
            int place = 0;
            while (place != end() && pairCount < MOST_PAIRS) {
                int sort = firstSorts[place];
                sorts[pairCount] = sort;
                leftsAhead[pairCount] = place / ROW;
                rightsAhead[pairCount] = place % ROW;
                pairCount++;
                place += STEP_OF_SORT[sort];
            }
        }

        private int end() {
            return leftCount * ROW + rightCount;
        }

        private static int orNone(int cost) {
            return cost < FAR ? cost : NONE;
        }

        /** Of BEST: 0 its COST, 1 how many PAIRS, 2 NEXT, 3 ALIKE. */
        int answer(int what) {
            switch (what) {
                case 0:
                    return orNone(leastCosts[0]);
                case 1:
                    return pairCount > 0 ? pairCount : NONE;
                case 2:
                    return orNone(nextCosts[0]);
                default:
                    return alikes[0];
            }
        }

        int costOfPair(int k) {
            return pairCosts[sorts[k] * PLACES + leftsAhead[k] * ROW + rightsAhead[k]];
        }

        int howManyOf(int sort) {
            int some = 0;
            for (int k = 0; k < pairCount; k++) {
                if (sorts[k] == sort) {
                    some++;
                }
            }
            return some;
        }

        /** RIGHT sentences in one PAIR of BEST with a LEFT one. */
        int rightsWith(int a) {
            int set = 0;
            for (int k = 0; k < pairCount; k++) {
                if (isIn(a, leftsAhead[k], LEFTS_OF_SORT[sorts[k]])) {
                    set |= setOf(rightsAhead[k], RIGHTS_OF_SORT[sorts[k]]);
                }
            }
            return set;
        }

        /** LEFT sentences in one PAIR of BEST with a RIGHT one. */
        int leftsWith(int b) {
            int set = 0;
            for (int k = 0; k < pairCount; k++) {
                if (isIn(b, rightsAhead[k], RIGHTS_OF_SORT[sorts[k]])) {
                    set |= setOf(leftsAhead[k], LEFTS_OF_SORT[sorts[k]]);
                }
            }
            return set;
        }

        private static boolean isIn(int sentence, int from, int n) {
            return sentence >= from && sentence < from + n;
        }

        private static int setOf(int from, int n) {
            return ((1 << n) - 1) << from;
        }
    }
}
