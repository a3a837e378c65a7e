import java.util.ArrayList;
import java.util.List;
import java.util.regex.Pattern;

/**
 * The document once more, written for plainness alone: texts by patterns, alignments by trying them all.
 * RandomRunsTest holds the class against it.
 */
final class Model {
    private static final int NONE = -9;
    private static final Pattern TEXT = Pattern.compile("b(;[PLD][1-9][a-d-]){1,7}(,[1-9][a-d-]){1,7}");

    /** A sentence; those of the RIGHT book are all plain. */
    record Sentence(int kind, int letters, int anchor) {
        int length() {
            return kind == 2 ? 2 * letters : letters + kind;
        }
    }

    /** An alignment: its sorts and its cost. */
    record Found(List<Integer> sorts, int cost) {
    }

    List<Sentence> left = new ArrayList<>();
    List<Sentence> right = new ArrayList<>();
    int skip;
    int join;
    int band;
    final List<int[]> readings = new ArrayList<>();
    final Object[] sheets = new Object[4];
    int trace;
    int fault;

    private int fails(int which) {
        fault = which;
        return -10 - which;
    }

    private static int laneOf(Object row) {
        return row instanceof byte[] ? 0 : row instanceof short[] ? 1 : 2;
    }

    private static int size(Object row) {
        return java.lang.reflect.Array.getLength(row);
    }

    private static int at(Object row, int i) {
        return java.lang.reflect.Array.getInt(row, i);
    }

    private int rowFault(int sheet, int lane, long i, long n) {
        Object row = sheets[sheet];
        if (row == null) {
            return 1;
        }
        if (laneOf(row) != lane) {
            return 2;
        }
        return n < 0 ? 4 : i < 0 || i + n > size(row) ? 3 : 0;
    }

    int books(int sheet, int lane, int i, int n) {
        fault = 0;
        if (sheet < 0 || sheet > 3) {
            return -1;
        }
        if (lane < 0 || lane > 2) {
            return -2;
        }
        int found = rowFault(sheet, lane, i, n);
        if (found != 0) {
            return fails(found);
        }
        StringBuilder text = new StringBuilder();
        for (int k = 0; k < n; k++) {
            int code = at(sheets[sheet], i + k);
            text.append(code > 0 && code < 128 ? (char) code : '?');
        }
        if (!TEXT.matcher(text).matches()) {
            return -100 - goesOnFor(text.toString());
        }
        left = new ArrayList<>();
        right = new ArrayList<>();
        for (int k = 1; k < n; k += text.charAt(k) == ';' ? 4 : 3) {
            boolean isLeft = text.charAt(k) == ';';
            int kind = isLeft ? "PLD".indexOf(text.charAt(k + 1)) : 0;
            int digit = isLeft ? k + 2 : k + 1;
            int anchor = "abcd-".indexOf(text.charAt(digit + 1));
            (isLeft ? left : right).add(new Sentence(kind, text.charAt(digit) - '0', anchor));
        }
        skip = 4;
        join = 1;
        band = 7;
        readings.clear();
        return left.size() + right.size();
    }

    /** How many codes from the first on some text begins with. */
    private static int goesOnFor(String text) {
        for (int k = 0; k < text.length(); k++) {
            var matcher = TEXT.matcher(text.substring(0, k + 1));
            if (!matcher.matches() && !matcher.hitEnd()) {
                return k;
            }
        }
        return text.length();
    }

    int ofLeft(int a, int what) {
        if (a < 0 || a >= left.size()) {
            return -1;
        }
        Sentence it = left.get(a);
        return switch (what) {
            case 0 -> it.kind();
            case 1 -> it.letters();
            case 2 -> it.length();
            case 3 -> it.anchor();
            case 4 -> together(a, true);
            default -> -2;
        };
    }

    int ofRight(int b, int what) {
        if (b < 0 || b >= right.size()) {
            return -1;
        }
        Sentence it = right.get(b);
        return switch (what) {
            case 0 -> it.letters();
            case 1 -> it.anchor();
            case 2 -> together(b, false);
            default -> -2;
        };
    }

    int letters(int side, int k, int v) {
        if (side != 0 && side != 1) {
            return -2;
        }
        List<Sentence> book = side == 0 ? left : right;
        if (k < 0 || k >= book.size()) {
            return -1;
        }
        if (v < 1 || v > 9) {
            return -2;
        }
        Sentence it = book.get(k);
        book.set(k, new Sentence(it.kind(), v, it.anchor()));
        return it.letters();
    }

    int price(int what, int v) {
        if (what < 0 || what > 2) {
            return -2;
        }
        if (left.isEmpty()) {
            return -3;
        }
        if (v < 0 || v > (what == 2 ? 7 : 9)) {
            return -2;
        }
        int before = what == 0 ? skip : what == 1 ? join : band;
        if (what == 0) {
            skip = v;
        } else if (what == 1) {
            join = v;
        } else {
            band = v;
        }
        return before;
    }

    int move(int b, int n, int t) {
        if (n < 1) {
            return -2;
        }
        if (b < 0 || (long) b + n > right.size()) {
            return -1;
        }
        if (t < 0 || t > right.size() - n) {
            return -2;
        }
        List<Sentence> chapter = new ArrayList<>(right.subList(b, b + n));
        right.subList(b, b + n).clear();
        right.addAll(t, chapter);
        return n;
    }

    // ---- alignments, all of them

    private static int leftsOf(int sort) {
        return sort == 2 ? 0 : sort == 3 ? 2 : 1;
    }

    private static int rightsOf(int sort) {
        return sort == 1 ? 0 : sort == 4 ? 2 : 1;
    }

    private static int[] lengthAndAnchors(List<Sentence> book, int from, int n) {
        int length = 0;
        int anchors = 0;
        for (Sentence it : book.subList(from, from + n)) {
            length += it.length();
            anchors |= it.anchor() < 4 ? 1 << it.anchor() : 0;
        }
        return new int[] {length, anchors};
    }

    private int pairCost(int sort, int a, int b) {
        int[] lefts = leftsOf(sort) == 0 ? new int[2] : lengthAndAnchors(left, a, leftsOf(sort));
        int[] rights = rightsOf(sort) == 0 ? new int[2] : lengthAndAnchors(right, b, rightsOf(sort));
        if (sort == 1 || sort == 2) {
            return skip + lefts[0] + rights[0];
        }
        int joined = sort > 2 ? join : 0;
        return Math.abs(lefts[0] - rights[0]) + (lefts[1] == rights[1] ? 0 : 3) + joined;
    }

    /** In the order of their sorts, so that the first of several is the one with the lesser sort. */
    private void tryAll(int a, int b, int wide, List<Integer> sorts, int cost, List<Found> all) {
        if (Math.abs(a - b) > wide) {
            return;
        }
        if (a == left.size() && b == right.size()) {
            all.add(new Found(new ArrayList<>(sorts), cost));
            return;
        }
        for (int sort = 0; sort < 5; sort++) {
            if (a + leftsOf(sort) <= left.size() && b + rightsOf(sort) <= right.size()) {
                sorts.add(sort);
                tryAll(a + leftsOf(sort), b + rightsOf(sort), wide, sorts, cost + pairCost(sort, a, b), all);
                sorts.remove(sorts.size() - 1);
            }
        }
    }

    private List<Found> all(int wide) {
        List<Found> all = new ArrayList<>();
        if (!left.isEmpty()) {
            tryAll(0, 0, wide, new ArrayList<>(), 0, all);
        }
        return all;
    }

    private static Found cheapest(List<Found> all) {
        Found best = null;
        for (Found it : all) {
            if (best == null || it.cost() < best.cost()) {
                best = it;
            }
        }
        return best;
    }

    private int together(int sentence, boolean ofLeft) {
        Found best = cheapest(all(band));
        int a = 0;
        int b = 0;
        int set = 0;
        if (best == null) {
            return 0;
        }
        for (int sort : best.sorts()) {
            for (int i = a; i < a + leftsOf(sort); i++) {
                for (int j = b; j < b + rightsOf(sort); j++) {
                    if ((ofLeft ? i : j) == sentence) {
                        set |= 1 << (ofLeft ? j : i);
                    }
                }
            }
            a += leftsOf(sort);
            b += rightsOf(sort);
        }
        return set;
    }

    int best(int what) {
        if (what < 0 || what > 3) {
            return -2;
        }
        if (left.isEmpty()) {
            return -3;
        }
        List<Found> all = all(band);
        Found best = cheapest(all);
        if (best == null) {
            return what == 3 ? 0 : NONE;
        }
        if (what == 0) {
            return best.cost();
        }
        if (what == 1) {
            return best.sorts().size();
        }
        if (what == 3) {
            return (int) all.stream().filter(it -> it.cost() == best.cost()).count();
        }
        all.remove(best);
        return all.isEmpty() ? NONE : cheapest(all).cost();
    }

    int ofPair(int k, int what) {
        Found best = cheapest(all(band));
        if (best == null || k < 0 || k >= best.sorts().size()) {
            return -1;
        }
        int a = 0;
        int b = 0;
        for (int sort : best.sorts().subList(0, k)) {
            a += leftsOf(sort);
            b += rightsOf(sort);
        }
        int sort = best.sorts().get(k);
        return switch (what) {
            case 0 -> sort;
            case 1 -> a;
            case 2 -> b;
            case 3 -> pairCost(sort, a, b);
            default -> -2;
        };
    }

    int cost(int sort, int a, int b) {
        if (sort < 0 || sort > 4) {
            return -2;
        }
        boolean lefts = leftsOf(sort) == 0 || a >= 0 && (long) a + leftsOf(sort) <= left.size();
        boolean rights = rightsOf(sort) == 0 || b >= 0 && (long) b + rightsOf(sort) <= right.size();
        return lefts && rights ? pairCost(sort, a, b) : -1;
    }

    private Model another() {
        Model other = new Model();
        other.left.addAll(left);
        other.right.addAll(right);
        other.skip = skip;
        other.join = join;
        other.band = band;
        other.readings.addAll(readings);
        return other;
    }

    int day(int sheet, int lane, int i, int n, int what) {
        fault = 0;
        if (sheet < 0 || sheet > 3) {
            return -1;
        }
        if (lane < 0 || lane > 2 || n < 0 || n > 20 || what < 0 || what > 4 && what < 10 || what > 16) {
            return -2;
        }
        int found = rowFault(sheet, lane, i, 2 * n);
        if (found != 0) {
            return fails(found);
        }
        if (left.isEmpty()) {
            return -3;
        }
        Object row = sheets[sheet];
        for (int k = i; k < i + 2 * n; k += 2) {
            int v = at(row, k);
            int on = at(row, k + 1);
            boolean ofSentence = on >= 0 && on <= 6 || on >= 10 && on <= 16;
            if (!ofSentence && on != 20 && on != 21 && on != 22) {
                return -2;
            }
            if (v < (ofSentence ? 1 : 0) || v > (on == 22 ? 7 : 9)) {
                return -2;
            }
        }
        Model then = another();
        for (int k = 0; k < n; k++) {
            int v = at(row, i + 2 * k);
            int on = at(row, i + 2 * k + 1);
            int answer = on >= 20 ? then.price(on - 20, v) : then.letters(on / 10, on % 10, v);
            if (answer < 0) {
                return what == 1 ? k : -100 - k;
            }
        }
        if (what >= 10) {
            return what - 10 < left.size() ? then.ofLeft(what - 10, 4) : NONE;
        }
        return what == 1 ? NONE : then.best(what == 0 ? 0 : what - 1);
    }

    private int least(int wide) {
        Found best = cheapest(all(wide));
        return best == null ? NONE : best.cost();
    }

    int by(int w) {
        return w < 0 || w > 7 ? -2 : left.isEmpty() ? -3 : least(w);
    }

    int enough() {
        if (left.isEmpty()) {
            return -3;
        }
        for (int w = 0; w < 7; w++) {
            if (least(w) == least(7)) {
                return w;
            }
        }
        return 7;
    }

    // ---- what it costs

    int reading(int w, int c) {
        if (left.isEmpty()) {
            return -3;
        }
        if (w < 0 || w > 7 || c != NONE && (c < 0 || c > 500)) {
            return -2;
        }
        if (readings.size() == 8) {
            return -4;
        }
        readings.add(new int[] {w, c});
        return readings.size() - 1;
    }

    int back(int n) {
        if (n < 0 || n > readings.size()) {
            return -2;
        }
        readings.subList(readings.size() - n, readings.size()).clear();
        return readings.size();
    }

    private boolean holds(int a, Sentence it) {
        Model other = another();
        other.left.set(a, it);
        return readings.stream().allMatch(reading -> other.least(reading[0]) == reading[1]);
    }

    int kinds(int a) {
        if (a < 0 || a >= left.size()) {
            return -1;
        }
        int set = 0;
        for (int kind = 0; kind < 3; kind++) {
            set |= holds(a, new Sentence(kind, left.get(a).letters(), left.get(a).anchor())) ? 1 << kind : 0;
        }
        return set;
    }

    int letterings(int a) {
        if (a < 0 || a >= left.size()) {
            return -1;
        }
        int set = 0;
        for (int v = 1; v <= 9; v++) {
            set |= holds(a, new Sentence(left.get(a).kind(), v, left.get(a).anchor())) ? 1 << v : 0;
        }
        return set;
    }

    long odds(int sort, int which) {
        Found best = cheapest(all(band));
        if (sort < 0 || sort > 4 || which < 0 || which > 1 || best == null) {
            return Long.MIN_VALUE;
        }
        var lower = java.math.BigInteger.valueOf(best.sorts().size());
        var upper = java.math.BigInteger.valueOf(best.sorts().stream().filter(it -> it == sort).count());
        return (which == 0 ? upper : lower).divide(upper.gcd(lower)).longValue();
    }

    // ---- sheets, parts

    int sheet(int k, int lane, int n) {
        fault = 0;
        if (k < 0 || k > 3) {
            return -1;
        }
        if (lane < 0 || lane > 2 || n > 60) {
            return -2;
        }
        if (n < 0) {
            return fails(4);
        }
        sheets[k] = lane == 0 ? new byte[n] : lane == 1 ? new short[n] : new int[n];
        return 1;
    }

    int lose(int k) {
        if (k < 0 || k > 3) {
            return -1;
        }
        int had = sheets[k] == null ? 0 : 1;
        sheets[k] = null;
        return had;
    }

    int put(int k, int i, int v) {
        fault = 0;
        if (k < 0 || k > 3) {
            return -1;
        }
        int found = sheets[k] == null ? 1 : i < 0 || i >= size(sheets[k]) ? 3 : 0;
        if (found != 0) {
            return fails(found);
        }
        if (sheets[k] instanceof byte[] row) {
            row[i] = (byte) v;
        } else if (sheets[k] instanceof short[] row) {
            row[i] = (short) v;
        } else if (sheets[k] instanceof int[] row) {
            row[i] = v;
        }
        return 1;
    }

    long cell(int k, int i, int lane) {
        fault = 0;
        if (k < 0 || k > 3 || lane < 0 || lane > 2) {
            return Long.MIN_VALUE;
        }
        fault = rowFault(k, lane, i, 1);
        return fault == 0 ? at(sheets[k], i) : Long.MIN_VALUE;
    }

    int copy(int k, int i, int other, int j, int n) {
        fault = 0;
        if (k < 0 || k > 3 || other < 0 || other > 3) {
            return -1;
        }
        if (sheets[k] == null || sheets[other] == null) {
            return fails(1);
        }
        try {
            System.arraycopy(sheets[k], i, sheets[other], j, n);
            return n;
        } catch (ArrayStoreException unlike) {
            return fails(2);
        } catch (IndexOutOfBoundsException beyond) {
            return fails(3);
        }
    }

    private void leave(int... bodies) {
        for (int body : bodies) {
            trace = 31 * trace + body;
        }
    }

    int tell(int a) {
        if (a < 0 || a >= left.size()) {
            return -1;
        }
        int letters = left.get(a).letters();
        switch (left.get(a).kind()) {
            case 0:
                leave(1);
                return letters;
            case 1:
                leave(2, 1);
                return letters + 100;
            default:
                leave(3, 2, 1, 1);
                return 2 * letters + 100;
        }
    }

    int read(int a) {
        if (a < 0 || a >= left.size()) {
            return -1;
        }
        boolean isDouble = left.get(a).kind() == 2;
        leave(isDouble ? new int[] {5, 4} : new int[] {4});
        return left.get(a).anchor() + (isDouble ? 80 : 0);
    }

    int as(int a, int kind) {
        fault = 0;
        if (a < 0 || a >= left.size()) {
            return -1;
        }
        if (kind < 0 || kind > 2) {
            return -2;
        }
        return kind <= left.get(a).kind() ? 1 : fails(2);
    }

    int trace() {
        return trace;
    }

    int fault() {
        return fault;
    }

    int many(int what) {
        int[] all = {left.size(), right.size(), skip, join, band, readings.size()};
        return what < 0 || what > 5 ? -2 : all[what];
    }
}
