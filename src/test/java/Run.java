import java.lang.reflect.Method;
import java.util.ArrayList;
import java.util.HashMap;
import java.util.List;
import java.util.Map;

/** A new object and calls on it, told as words: "letters 0 2 9". MIN and MAX are the least and the highest int. */
final class Run {
    /** Behind these the document leaves all answers free. */
    private static final int MOST_CALLS = 512;
    private static final Map<String, Method> METHODS = methods();

    private final BookPairs x = new BookPairs();
    private int calls;

    private static Map<String, Method> methods() {
        Map<String, Method> methods = new HashMap<>();
        for (Method method : BookPairs.class.getDeclaredMethods()) {
            methods.put(method.getName(), method);
        }
        return methods;
    }

    static Run ofText(String text) {
        Run run = new Run();
        if (run.text(text) < 0) {
            throw new IllegalStateException("the test's text is wrong: " + text);
        }
        return run;
    }

    int calls() {
        return calls;
    }

    long call(String words) {
        calls++;
        if (calls > MOST_CALLS) {
            throw new IllegalStateException("the test makes too many calls: " + words);
        }
        String[] parts = words.split(" ");
        Object[] numbers = new Object[parts.length - 1];
        for (int k = 0; k < numbers.length; k++) {
            numbers[k] = number(parts[k + 1]);
        }
        try {
            return ((Number) METHODS.get(parts[0]).invoke(x, numbers)).longValue();
        } catch (ReflectiveOperationException thrown) {
            throw new IllegalStateException(words, thrown);
        }
    }

    private static int number(String word) {
        switch (word) {
            case "MIN":
                return Integer.MIN_VALUE;
            case "MAX":
                return Integer.MAX_VALUE;
            default:
                return Integer.parseInt(word);
        }
    }

    /** Calls whose answers are not looked at. */
    Run with(String... manyWords) {
        for (String words : manyWords) {
            call(words);
        }
        return this;
    }

    Run due(String words, long want) {
        Boundary.due(words, call(words), want);
        return this;
    }

    /** The same call, but for its last number, which goes from 0 on. */
    Run dues(String words, long... wants) {
        for (int k = 0; k < wants.length; k++) {
            due(words + " " + k, wants[k]);
        }
        return this;
    }

    Run fill(int sheet, int lane, int... cells) {
        call("sheet " + sheet + " " + lane + " " + cells.length);
        for (int i = 0; i < cells.length; i++) {
            call("put " + sheet + " " + i + " " + cells[i]);
        }
        return this;
    }

    /** Gives a text by way of sheet 0. */
    long text(String text) {
        fill(0, 0, text.chars().toArray());
        return call("books 0 0 0 " + text.length());
    }

    /** All that can be seen of the object, but for fault(), which looking at sheets changes. */
    List<String> seen() {
        List<String> seen = new ArrayList<>();
        see(seen, "trace");
        for (int what = 0; what <= 5; what++) {
            see(seen, "many " + what);
        }
        for (int a = 0; see(seen, "ofLeft " + a + " 0") >= 0; a++) {
            for (int what = 1; what <= 4; what++) {
                see(seen, "ofLeft " + a + " " + what);
            }
            see(seen, "kinds " + a);
            see(seen, "letterings " + a);
        }
        for (int b = 0; see(seen, "ofRight " + b + " 0") >= 0; b++) {
            see(seen, "ofRight " + b + " 1");
            see(seen, "ofRight " + b + " 2");
        }
        for (int what = 0; what <= 3; what++) {
            see(seen, "best " + what);
        }
        for (int k = 0; see(seen, "ofPair " + k + " 0") >= 0; k++) {
            see(seen, "ofPair " + k + " 3");
        }
        for (int k = 0; k < 4; k++) {
            seeSheet(seen, k);
        }
        return seen;
    }

    private long see(List<String> seen, String words) {
        long answer = call(words);
        seen.add(words + " answers " + answer);
        return answer;
    }

    private void seeSheet(List<String> seen, int k) {
        for (int lane = 0; lane < 3; lane++) {
            see(seen, "cell " + k + " 0 " + lane);
            long fault = see(seen, "fault");
            if (fault == Boundary.NULL) {
                return;
            }
            if (fault == Boundary.NO_FAULT) {
                int i = 1;
                while (see(seen, "cell " + k + " " + i + " " + lane) != BookPairs.LOST) {
                    i++;
                }
                return;
            }
        }
    }
}
