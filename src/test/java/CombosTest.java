import java.lang.reflect.Method;
import java.lang.reflect.Modifier;
import java.util.ArrayList;
import java.util.Arrays;
import java.util.Comparator;
import java.util.List;
import java.util.Map;
import java.util.Set;
import java.util.TreeMap;
import java.util.TreeSet;

/**
 * Each call with each combination of numbers at and beyond an edge, at several moments,
 * held against NaiveFinder: its answer, and what is told behind it.
 */
public final class CombosTest {
    private static final int[] MANY = {Integer.MIN_VALUE, -3, -2, -1, 0, 1, 2, 3, 4, 5, 6, 7, 8, 10, 14, 15, 16, 17, 20, 21, 32, 33, 40, 41, 42,
        43, 47, 48, 49, 255, 256, 257, 400, 401, 2000, 2001, 2047, 2048, 4000, 4001, 9599, 9600, 9601, 1000003, 1000004, Integer.MAX_VALUE};
    private static final int[] SOME = {Integer.MIN_VALUE, -2, -1, 0, 1, 3, 7, 8, 32, 33, 256, 257, 2000, 2001, Integer.MAX_VALUE};
    private static final int[] FEW = {-1, 0, 1, 4, 5, 7, 8, 256, 257, 1001, 1000003, 1000004, Integer.MAX_VALUE};
    private static final Set<String> CHANGING = Set.of("feed", "bits", "send", "rest", "flip", "drop", "slip", "disturb", "empty", "terms",
        "take", "fresh", "stages");
    private static final String[] MOMENTS = {
        "",
        "terms 0 4, terms 2 1, rest 3, slip 0 3 5, terms 6 3, take 20",
        "terms 0 4, terms 2 3, rest 4, take 72, take 20",
        "terms 0 4, terms 1 3, terms 2 1, terms 4 40, send 7 1, send 8 2, send 9 3, rest 3, send 5 5, flip 149, flip 222, take 300, stages 77 -5",
        "terms 0 4, terms 2 1, terms 5 1, rest 20, send 9 9, flip 1000, take 9600"};

    private final Map<String, Method> tested = new TreeMap<>();
    private final Map<String, Method> naive = new TreeMap<>();
    private int wrong;
    private int asked;

    public static void main(String[] args) throws Exception {
        CombosTest test = new CombosTest();
        for (String moment : MOMENTS) {
            for (Method m : test.naive.values()) {
                test.askAll(moment, m);
            }
        }
        System.out.println("combinations: " + test.asked + ", of these wrong: " + test.wrong);
        System.exit(test.wrong == 0 ? 0 : 1);
    }

    private CombosTest() {
        for (Method m : NaiveFinder.class.getDeclaredMethods()) {
            if (Modifier.isPublic(m.getModifiers())) {
                naive.put(m.getName(), m);
            }
        }
        Method[] all = CellFinder.class.getDeclaredMethods();
        Arrays.sort(all, Comparator.comparing(Method::getName));
        for (Method m : all) {
            if (Modifier.isPublic(m.getModifiers())) {
                tested.put(m.getName(), m);
            }
        }
    }

    /** The two of which the same is asked, and how often. */
    private final class Pair {
        final CellFinder x = new CellFinder();
        final NaiveFinder y = new NaiveFinder();
        int calls;

        Pair(String moment) throws Exception {
            for (String call : moment.isEmpty() ? new String[0] : moment.split(", ")) {
                String[] words = call.split(" ");
                Object[] a = new Object[words.length - 1];
                for (int i = 0; i < a.length; i++) {
                    a[i] = Integer.parseInt(words[i + 1]);
                }
                ask(words[0], a);
            }
        }

        long ask(String name, Object... a) throws Exception {
            calls++;
            long got = ((Number) tested.get(name).invoke(x, a)).longValue();
            long due = ((Number) naive.get(name).invoke(y, a)).longValue();
            if (got != due) {
                wrong++;
                if (wrong < 20) {
                    System.out.println(name + Arrays.toString(a) + " answered " + got + ", due is " + due);
                }
            }
            return due;
        }
    }

    private void askAll(String moment, Method m) throws Exception {
        Pair first = new Pair(moment);
        Set<Integer> values = new TreeSet<>();
        int n = m.getParameterCount();
        for (int v : n <= 2 ? MANY : n == 3 ? SOME : FEW) {
            values.add(v);
        }
        for (int place : new int[] {first.y.at, first.y.line.size()}) {
            values.addAll(List.of(place - 1, place, place + 1));
        }
        List<Integer> all = new ArrayList<>(n == 5 ? Set.of(-1, 7) : values);
        boolean isChanging = CHANGING.contains(m.getName());
        Pair pair = first;
        int rows = (int) Math.pow(all.size(), n);
        for (int row = 0; row < rows; row++) {
            Object[] a = new Object[n];
            for (int i = 0, rest = row; i < n; i++, rest /= all.size()) {
                a[i] = all.get(rest % all.size());
            }
            if (pair.calls > 450) {
                pair = new Pair(moment);
            }
            asked++;
            long due = pair.ask(m.getName(), a);
            // a refused call changes nothing: the next ones show it
            if (isChanging && due >= -1) {
                tellAll(pair);
                pair = new Pair(moment);
            }
        }
        if (isChanging) {
            tellAll(pair);
        }
    }

    private void tellAll(Pair pair) throws Exception {
        for (int what = 0; what <= 16; what++) {
            pair.ask("told", what);
        }
        for (int what = 0; what <= 10; what++) {
            pair.ask("state", what);
        }
        for (int i = 0; i < 43; i += 6) {
            pair.ask("stage", i % 2, i);
        }
        pair.ask("take", 9600);
        for (int what = 0; what <= 13; what++) {
            pair.ask("count", what);
        }
        pair.ask("lost");
    }
}
