import java.lang.reflect.Method;
import java.util.ArrayList;
import java.util.Arrays;
import java.util.Comparator;
import java.util.List;
import java.util.Random;

/** Random runs of calls, each answer held against that of NaiveFinder. */
public final class RandomRunsTest {
    private static final int CALLS = 512;
    private static final int[] EDGES = {
        Integer.MIN_VALUE, -3, -2, -1, 0, 1, 2, 3, 4, 5, 7, 8, 15, 16, 20, 21, 32, 33, 39, 40, 41, 42, 43, 48, 255, 256,
        257, 400, 401, 1000, 1001, 2000, 2001, 2047, 2048, 4000, 9599, 9600, 9601, 1000003, 1000004, Integer.MAX_VALUE};
    private static final List<String> BUILDING =
        List.of("bits", "send", "send", "send", "rest", "rest", "flip", "drop", "slip", "disturb", "feed");
    private static final List<String> BUILDING_CALMLY =
        List.of("send", "send", "send", "send", "rest", "rest", "flip", "flip", "flip", "disturb");
    private static final List<String> TAKING =
        List.of("take", "take", "take", "take", "take", "take", "terms", "terms", "empty", "stages");
    private static final List<String> TAKING_CALMLY = List.of("take", "empty");
    private static final List<String> DEAR = List.of("worst", "tuned", "starts", "latest", "spread", "would");

    private final Random random;
    private final boolean isLong;
    private final boolean isCalm;
    private final CellFinder tested = new CellFinder();
    private final NaiveFinder naive = new NaiveFinder();

    /** A calm run is disturbed little, so that cells are mended and delivered as they were sent. */
    private RandomRunsTest(long seed) {
        random = new Random(seed);
        isLong = random.nextInt(8) == 0;
        isCalm = random.nextInt(3) != 0;
    }

    public static void main(String[] args) throws Exception {
        int runs = args.length > 1 ? Integer.parseInt(args[1]) : 400;
        long first = args.length > 2 ? Long.parseLong(args[2]) : 0L;
        List<Method> methods = new ArrayList<>();
        for (Method m : NaiveFinder.class.getDeclaredMethods()) {
            if (java.lang.reflect.Modifier.isPublic(m.getModifiers())) {
                methods.add(m);
            }
        }
        methods.sort(Comparator.comparing(Method::getName));
        int wrong = 0;
        for (int run = 0; run < runs; run++) {
            wrong += new RandomRunsTest(first + run).hasRunWell(first + run, methods) ? 0 : 1;
        }
        System.out.println("random runs: " + runs + ", of these wrong: " + wrong);
        System.exit(wrong == 0 ? 0 : 1);
    }

    private boolean hasRunWell(long seed, List<Method> methods) throws Exception {
        List<String> told = new ArrayList<>();
        start();
        for (int call = 0; call < CALLS - 7; call++) {
            Method m = pick(methods);
            if (DEAR.contains(m.getName()) && random.nextInt(isLong ? 12 : 2) != 0) {
                continue;
            }
            Object[] a = argumentsFor(m);
            long due = ((Number) m.invoke(naive, a)).longValue();
            long got = ((Number) CellFinder.class.getMethod(m.getName(), m.getParameterTypes()).invoke(tested, a)).longValue();
            told.add(m.getName() + Arrays.toString(a) + " = " + got);
            if (got != due) {
                System.out.println("seed " + seed + ", call " + call + ": " + told.get(told.size() - 1) + ", due is " + due);
                return false;
            }
        }
        return true;
    }

    /** Most runs have small cells and are soon sure, so that much happens in few calls. */
    private void start() {
        int[] v = {isLong ? 4 + random.nextInt(45) : 4 + random.nextInt(5), 1 + random.nextInt(4), 1 + random.nextInt(3),
            random.nextInt(3) == 0 ? 0 : 1, 40 + random.nextInt(200), random.nextInt(2), 1 + random.nextInt(random.nextBoolean() ? 1 : 8)};
        for (int what = 0; what < 7; what++) {
            tested.terms(what, v[what]);
            naive.terms(what, v[what]);
        }
    }

    private Method pick(List<Method> methods) {
        int group = random.nextInt(10);
        if (group < 6) {
            boolean isCalmNow = isCalm && random.nextInt(30) != 0;
            List<String> building = isCalmNow ? BUILDING_CALMLY : BUILDING;
            List<String> taking = isCalmNow ? TAKING_CALMLY : TAKING;
            List<String> names = group < 3 ? building : taking;
            String name = names.get(random.nextInt(names.size()));
            if (name.equals("empty") && naive.at < naive.line.size() && naive.line.size() < 3000 && naive.sent.size() < 64) {
                name = "take";
            }
            for (Method m : methods) {
                if (m.getName().equals(name)) {
                    return m;
                }
            }
        }
        Method m = methods.get(random.nextInt(methods.size()));
        boolean isSweeping = List.of("empty", "fresh", "feed", "stages", "terms").contains(m.getName());
        return isSweeping && random.nextInt(isCalm ? 8 : 2) != 0 ? pick(methods) : m;
    }

    private Object[] argumentsFor(Method m) {
        Object[] a = new Object[m.getParameterCount()];
        for (int i = 0; i < a.length; i++) {
            a[i] = random.nextInt(24) == 0 ? EDGES[random.nextInt(EDGES.length)] : likely(m.getName(), i, a);
        }
        return a;
    }

    private int below(int n) {
        return random.nextInt(Math.max(1, n));
    }

    /** A place on the line, most often one not far behind what was taken. */
    private int place() {
        int left = naive.line.size() - naive.at;
        return random.nextInt(12) == 0 ? below(naive.line.size() + 1) : naive.at + below(Math.min(left, isLong ? 2000 : 400));
    }

    private int number(int size, int kept) {
        return random.nextInt(8) == 0 ? below(size + 1) : Math.max(0, size - 1 - below(Math.min(size, kept + 1)));
    }

    private int likely(String name, int i, Object[] a) {
        switch (name) {
            case "bits": return i == 0 ? 1 + below(32) : random.nextInt();
            case "send": return i == 0 ? (below(3) == 0 ? 1 + below(3) : random.nextInt()) : below(1000004);
            case "rest": return 1 + below(isLong ? 6 : 4);
            case "flip": case "bit": return place();
            case "drop": return i == 0 ? place() : 1 + below(below(4) == 0 ? 400 : 5);
            case "slip": return i == 0 ? place() : i == 1 ? 1 + below(below(4) == 0 ? 32 : 4) : random.nextInt();
            case "disturb": return i == 0 ? place() : i == 1 ? 1 + below(120) : i == 2 ? 1 + below(below(3) == 0 ? 60 : 1000) : below(1000004);
            case "terms": return i == 0 ? (below(4) == 0 ? below(8) : 1 + below(6)) : termFor((Integer) a[0]);
            case "take": return 1 + below(below(6) == 0 ? 9600 : below(3) == 0 ? 400 : 72);
            case "stage": return i == 0 ? below(2) : below(43);
            case "stages": return i == 0 ? below(2048) : random.nextInt();
            case "state": return below(11);
            case "count": return below(14);
            case "delivered": return i == 0 ? number(naive.receiver.delivered.size(), 12) : below(4);
            case "load": return i == 0 ? number(naive.receiver.delivered.size(), 12) : below(naive.terms[0] + 1);
            case "field": return i == 0 ? number(naive.receiver.delivered.size(), 12) : below(5);
            case "judged": return i == 0 ? number(naive.receiver.judged.size(), 32) : below(3);
            case "turn": return i == 0 ? number(naive.receiver.turns.size(), 24) : below(3);
            case "look": return below(1000);
            case "until": return below(3);
            case "would": return i == 0 ? place() : below(6);
            case "regained": return 1 + below(60);
            case "spread": return i == 0 ? place() : below(6) - 1;
            case "rights": return i == 0 ? place() : i == 1 ? 1 + below(600) : below(6) - 1;
            case "phase": return below(2);
            case "tuned": return 1 + below(3);
            case "starts": return below(4);
            case "syndrome": return i == 0 ? random.nextInt() : below(256);
            case "single": return below(256);
            case "latest": return below(3);
            case "pairs": return i == 0 ? below(256) : below(11) - 1;
            case "nearest": return i == 0 ? below(256) : below(5) - 1;
            case "mending": return i == 0 ? random.nextInt() : i == 1 ? below(256) : below(3);
            case "words": return below(41);
            case "cases": return i == 0 ? below(41) : below(3);
            case "unseen": return i == 0 ? below(41) : below(5);
            case "odds": return i == 0 ? below(2) : i == 1 ? below(8) : i == 2 ? below(257) : below(5);
            case "mean": return i == 0 ? below(2) : i == 1 ? below(257) : below(2);
            case "half": return i == 0 ? below(2) : below(257);
            case "told": return below(3) == 0 ? below(4) : 9 + below(9);
            default: return random.nextInt();
        }
    }

    private int termFor(int what) {
        if (what < 0 || what > 6) {
            return below(10);
        }
        if (what == 4 && !isLong) {
            return 40 + below(200);
        }
        int[] range = NaiveFinder.RANGES[what];
        int width = what == 1 || what == 2 ? 4 : range[1] - range[0] + 1;
        return range[0] + below(width);
    }
}
