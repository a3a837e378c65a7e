import java.lang.reflect.InvocationTargetException;
import java.lang.reflect.Method;
import java.util.ArrayList;
import java.util.Arrays;
import java.util.Comparator;
import java.util.List;
import java.util.Set;

/** What the tests of boundary cases share. Each of them is a method marked with Holds. */
final class Boundary {
    static final int UNKNOWN = -1, OUTSIDE = -2, STATE = -3, FULL = -4, NONE = -9;
    static final int NO_FAULT = 0, NULL = 1, CAST = 2, INDEX = 3, SIZE = 4;
    static final long LOST = Long.MIN_VALUE;

    private static final Set<String> NAME_FAULTS = Set.of("books", "day", "sheet", "put", "cell", "copy", "as");
    private static final Set<String> ANSWER_LONGS = Set.of("cell", "odds");
    private static final Check CHECK = new Check();
    private static String test = "";

    private Boundary() {
    }

    static List<Method> testsOf(Class<?> tests) {
        List<Method> marked = new ArrayList<>();
        for (Method method : tests.getDeclaredMethods()) {
            if (method.isAnnotationPresent(Holds.class)) {
                marked.add(method);
            }
        }
        marked.sort(Comparator.comparing(Method::getName));
        return marked;
    }

    /** Runs all tests of a class and ends the program. */
    static void runAll(Class<?> tests) throws IllegalAccessException {
        List<Method> marked = testsOf(tests);
        for (Method method : marked) {
            Holds holds = method.getAnnotation(Holds.class);
            test = "promise " + holds.promise() + " " + Arrays.toString(holds.to()) + ", " + method.getName() + ": ";
            try {
                method.invoke(null);
            } catch (InvocationTargetException thrown) {
                CHECK.due(test + thrown.getCause(), 1, 0);
            }
        }
        System.out.println(marked.size() + " tests");
        CHECK.end();
    }

    static void due(String call, long got, long want) {
        CHECK.due(test + call, got, want);
    }

    /**
     * Three LEFT sentences of all kinds with lengths 3, 5, 4, three RIGHT ones that match them; prices, a READING
     * and a TRACE that are not those of the beginning; a sheet of each LANE, and one that has nothing.
     */
    static Run ready() {
        Run run = Run.ofText("b;P3a;L4-;D2b,3a,5-,4b");
        run.with("price 0 5", "price 1 2", "price 2 2", "reading 7 0", "tell 1");
        return run.fill(1, 1, 9, 0, 1, 12).fill(2, 2, 7, -7, 70000);
    }

    /** A REFUSAL, of an object that is ready. */
    static void refused(String call, int want) {
        refused(ready(), call, want);
    }

    static void refused(Run run, String call, int want) {
        leavesAll(run, call, ANSWER_LONGS.contains(name(call)) ? LOST : want, NO_FAULT);
    }

    /** A FAULT, of an object that is ready. */
    static void failed(String call, int fault) {
        failed(ready(), call, fault);
    }

    static void failed(Run run, String call, int fault) {
        leavesAll(run, call, ANSWER_LONGS.contains(name(call)) ? LOST : -10 - fault, fault);
    }

    /** An answer that is neither REFUSAL nor FAULT, of a call that changes nothing. */
    static void onlyAnswers(Run run, String call, long want) {
        leavesAll(run, call, want, NO_FAULT);
    }

    private static void leavesAll(Run run, String call, long want, int fault) {
        List<String> before = run.seen();
        // Another FAULT ahead of it, so that one sees whether the call leaves it, as it must if it names none.
        String ahead = fault == SIZE ? "put 3 0 0" : "sheet 0 0 -1";
        run.with(ahead).due(call, want);
        int faultAhead = fault == SIZE ? NULL : SIZE;
        due("fault behind " + call, run.call("fault"), NAME_FAULTS.contains(name(call)) ? fault : faultAhead);
        List<String> behind = run.seen();
        int k = 0;
        while (k < before.size() && k < behind.size() && before.get(k).equals(behind.get(k))) {
            k++;
        }
        boolean same = k == before.size() && k == behind.size();
        String seen = k < behind.size() ? behind.get(k) : "less is there";
        due("changes by " + call + (same ? "" : " (" + seen + ")"), same ? 0 : 1, 0);
    }

    private static String name(String call) {
        return call.split(" ")[0];
    }
}
