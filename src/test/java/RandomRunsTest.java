import java.lang.reflect.Method;
import java.lang.reflect.Modifier;
import java.util.Arrays;
import java.util.Comparator;
import java.util.Random;

/** Runs of calls by chance (the same ones each time), each answer held against the Model's. */
public final class RandomRunsTest {
    private static final Check CHECK = new Check();
    private static final Method[] CALLS = calls();
    private static final int RUNS = 1000, BIG_RUNS = 12;
    /** A document's object has 512 calls; the last turn may take some more. */
    private static final int TURNS_BEGIN_BEFORE = 450;

    private final Random random;
    private final int mostSentences;
    private final BookPairs x = new BookPairs();
    private final Model m = new Model();
    private int calls;

    private RandomRunsTest(int seed, int mostSentences) {
        this.random = new Random(seed);
        this.mostSentences = mostSentences;
    }

    public static void main(String[] args) {
        for (int seed = 0; seed < RUNS; seed++) {
            new RandomRunsTest(seed, 3 + seed % 2).run();
        }
        for (int seed = 0; seed < BIG_RUNS; seed++) {
            new RandomRunsTest(1000 + seed, 7).bigBooks();
        }
        CHECK.end();
    }

    private void run() {
        while (calls < TURNS_BEGIN_BEFORE) {
            switch (random.nextInt(12)) {
                case 0:
                    giveText(random.nextInt(4) == 0);
                    break;
                case 1:
                    giveDay();
                    break;
                case 2:
                    giveReading();
                    break;
                case 3:
                case 4:
                case 5:
                    changeOrAsk();
                    break;
                default:
                    anyCall();
                    break;
            }
        }
    }

    /** Books of seven and seven have too many alignments to try them all often. */
    private void bigBooks() {
        giveText(false);
        due("price", x.price(2, 3), m.price(2, 3));
        for (int what = 0; what < 4; what++) {
            due("best " + what, x.best(what), m.best(what));
        }
        for (int k = 0; k < 14; k++) {
            due("ofPair " + k, x.ofPair(k, 0), m.ofPair(k, 0));
        }
        due("by 7", x.by(7), m.by(7));
        due("ofLeft", x.ofLeft(0, 4), m.ofLeft(0, 4));
    }

    private void due(String call, long got, long want) {
        calls++;
        CHECK.due(call, got, want);
    }

    private int near() {
        int chance = random.nextInt(20);
        if (chance == 0) {
            int[] far = {Integer.MIN_VALUE, Integer.MAX_VALUE, Integer.MAX_VALUE - 1, -1, -9, 60, 61, 1000};
            return far[random.nextInt(far.length)];
        }
        return random.nextInt(chance < 12 ? 4 : 10) - (chance < 4 ? 1 : 0);
    }

    private String text() {
        StringBuilder text = new StringBuilder("b");
        int lefts = mostSentences == 7 ? 5 + random.nextInt(3) : 1 + random.nextInt(mostSentences);
        int rights = mostSentences == 7 ? 5 + random.nextInt(3) : 1 + random.nextInt(mostSentences);
        for (int k = 0; k < lefts; k++) {
            text.append(';').append("PLD".charAt(random.nextInt(3)));
            text.append((char) ('1' + random.nextInt(9))).append("abcd-".charAt(random.nextInt(5)));
        }
        for (int k = 0; k < rights; k++) {
            text.append(',');
            text.append((char) ('1' + random.nextInt(9))).append("abcd-".charAt(random.nextInt(5)));
        }
        return text.toString();
    }

    private void fill(int sheet, int lane, int... cells) {
        due("sheet", x.sheet(sheet, lane, cells.length), m.sheet(sheet, lane, cells.length));
        for (int i = 0; i < cells.length; i++) {
            due("put", x.put(sheet, i, cells[i]), m.put(sheet, i, cells[i]));
        }
    }

    private void giveText(boolean spoilt) {
        StringBuilder text = new StringBuilder(text());
        if (spoilt) {
            String signs = "b;,PLD19a-de0";
            text.setCharAt(random.nextInt(text.length()), signs.charAt(random.nextInt(signs.length())));
            text.setLength(text.length() - random.nextInt(3));
        }
        int sheet = random.nextInt(4);
        int lane = random.nextInt(3);
        fill(sheet, lane, Check.codes(text.toString()));
        due("books " + text, x.books(sheet, lane, 0, text.length()), m.books(sheet, lane, 0, text.length()));
    }

    private void giveDay() {
        int n = random.nextInt(5);
        int[] cells = new int[2 * n];
        for (int k = 0; k < n; k++) {
            int[] on = {random.nextInt(4), 10 + random.nextInt(4), 20 + random.nextInt(3), random.nextInt(24)};
            cells[2 * k] = random.nextInt(10) == 0 ? near() : 1 + random.nextInt(7);
            cells[2 * k + 1] = on[random.nextInt(30) == 0 ? 3 : random.nextInt(3)];
        }
        int sheet = random.nextInt(4);
        int lane = random.nextInt(3);
        fill(sheet, lane, cells);
        for (int what = 0; what <= 16; what++) {
            due("day " + what, x.day(sheet, lane, 0, n, what), m.day(sheet, lane, 0, n, what));
        }
    }

    /** Readings that are so, for the most part; by chance ones seldom leave any kind. */
    private void giveReading() {
        int w = random.nextInt(8);
        int c = m.by(w);
        if (random.nextInt(8) == 0) {
            c += random.nextInt(3) - 1;
        }
        due("reading " + w + " " + c, x.reading(w, c), m.reading(w, c));
        int a = random.nextInt(mostSentences);
        due("kinds " + a, x.kinds(a), m.kinds(a));
        due("letterings " + a, x.letterings(a), m.letterings(a));
        if (random.nextInt(3) == 0) {
            due("back", x.back(1), m.back(1));
        }
    }

    private void changeOrAsk() {
        int what = random.nextInt(3);
        int k = random.nextInt(mostSentences);
        int v = random.nextInt(10);
        switch (random.nextInt(4)) {
            case 0:
                due("price " + what + " " + v, x.price(what, v), m.price(what, v));
                break;
            case 1:
                due("letters " + k + " " + v, x.letters(what, k, v), m.letters(what, k, v));
                break;
            case 2:
                due("move " + k, x.move(k, 1 + what, v % 3), m.move(k, 1 + what, v % 3));
                break;
            default:
                for (int asked = 0; asked < 4; asked++) {
                    due("best " + asked, x.best(asked), m.best(asked));
                }
                break;
        }
    }

    /** Any call with any numbers, and what it left behind. */
    private void anyCall() {
        Method method = CALLS[random.nextInt(CALLS.length)];
        Object[] numbers = new Object[method.getParameterCount()];
        for (int k = 0; k < numbers.length; k++) {
            numbers[k] = near();
        }
        String call = method.getName() + Arrays.toString(numbers);
        try {
            Method asked = Model.class.getDeclaredMethod(method.getName(), method.getParameterTypes());
            Number got = (Number) method.invoke(x, numbers);
            due(call, got.longValue(), ((Number) asked.invoke(m, numbers)).longValue());
        } catch (ReflectiveOperationException thrown) {
            throw new IllegalStateException(call, thrown);
        }
        due("fault behind " + call, x.fault(), m.fault());
        due("trace behind " + call, x.trace(), m.trace());
    }

    private static Method[] calls() {
        Method[] calls = Arrays.stream(BookPairs.class.getDeclaredMethods())
            .filter(method -> Modifier.isPublic(method.getModifiers())).toArray(Method[]::new);
        // The machine tells methods in no order of their own.
        Arrays.sort(calls, Comparator.comparing(Method::getName));
        return calls;
    }
}
