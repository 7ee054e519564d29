import java.lang.annotation.Retention;
import java.lang.annotation.RetentionPolicy;
import java.util.ArrayList;
import java.util.List;

/** What the tests of the document's edges share; EdgesTest runs them. */
abstract class Edges {
    /** The sentences of the document of which a test holds the edges: of a promise, or (0) of the terms. */
    @Retention(RetentionPolicy.RUNTIME)
    @interface Says {
        int promise() default 0;

        String[] value();
    }

    /** Calls on a new object that bring it to where a test begins. */
    interface Run {
        void on(Finder x);
    }

    interface Call {
        long on(Finder x);
    }

    private record Reading(String name, Call call) {
    }

    static final int NONE = -1;
    static final int NO_SUCH = -2;
    static final int CANNOT_BE = -3;
    static final int TOO_MANY = -4;
    static final int NOT_NOW = -5;
    static final int HUNT = 0;
    static final int NEAR = 1;
    static final int SURE = 2;
    static final int LEAST = Integer.MIN_VALUE;
    static final int GREATEST = Integer.MAX_VALUE;

    private static final int FAULTS_TOLD = 5;
    private int faults;

    final int faults() {
        return faults;
    }

    final void due(long got, long want) {
        if (got != want) {
            fault("answered " + got + ", due is " + want);
        }
    }

    /** One cause may show in a thousand readings; a few of these tell enough. */
    final void fault(String what) {
        faults++;
        if (faults <= FAULTS_TOLD) {
            System.out.println(whence() + " " + what);
        }
    }

    private String whence() {
        return StackWalker.getInstance().walk(frames -> frames
            .filter(f -> !f.getClassName().equals(Edges.class.getName()) && !f.getMethodName().startsWith("lambda$"))
            .findFirst()
            .map(f -> f.getClassName() + "." + f.getMethodName() + ":" + f.getLineNumber())
            .orElse("?"));
    }

    static Finder behind(Run run) {
        Finder x = new Finder();
        run.on(x);
        return x;
    }

    /** The call answers the code, and each call behind it answers as if it had not been. */
    final void refused(int code, Run run, Call call) {
        quiet(code, run, call);
    }

    /** The call answers what is due and changes nothing. */
    final void quiet(long want, Run run, Call call) {
        due(call.on(behind(run)), want);
        Finder without = behind(run);
        List<Reading> all = readings(without);
        without = behind(run);
        Finder with = behind(run);
        call.on(with);
        for (Reading r : all) {
            if (with.callsLeft() == 0) {
                without = behind(run);
                with = behind(run);
                call.on(with);
            }
            compare(r, without, with);
        }
        for (List<Reading> next : nextCalls()) {
            without = behind(run);
            with = behind(run);
            call.on(with);
            for (Reading r : next) {
                compare(r, without, with);
            }
        }
    }

    /** The call may answer what it likes, but changes nothing. */
    final void unchanged(Run run, Call call) {
        quiet(call.on(behind(run)), run, call);
    }

    private void compare(Reading r, Finder without, Finder with) {
        long want = r.call.on(without);
        long got = r.call.on(with);
        if (got != want) {
            fault("behind the call " + r.name + " answered " + got + ", without it " + want);
        }
    }

    /** All that can be read of an object without changing it. */
    private static List<Reading> readings(Finder x) {
        List<Reading> all = new ArrayList<>(numbers());
        int bits = x.told(0);
        for (int i = 0; i < bits; i++) {
            int place = i;
            all.add(new Reading("bit(" + i + ")", y -> y.bit(place)));
        }
        int delivered = x.count(3);
        addRow(all, "delivered", delivered, 12, 4);
        addRow(all, "turn", x.count(7), 24, 3);
        addRow(all, "judged", x.count(8), 32, 3);
        int bytes = x.told(10);
        for (int k = Math.max(0, delivered - 12); k < delivered; k++) {
            for (int i = 0; i < bytes; i++) {
                int number = k;
                int place = i;
                all.add(new Reading("load(" + k + ", " + i + ")", y -> y.load(number, place)));
            }
        }
        return all;
    }

    private static List<Reading> numbers() {
        List<Reading> all = new ArrayList<>();
        for (int i = 0; i <= 16; i++) {
            int what = i;
            all.add(new Reading("told(" + i + ")", y -> y.told(what)));
        }
        for (int i = 0; i <= 10; i++) {
            int what = i;
            all.add(new Reading("state(" + i + ")", y -> y.state(what)));
        }
        for (int i = 0; i <= 13; i++) {
            int what = i;
            all.add(new Reading("count(" + i + ")", y -> y.count(what)));
        }
        for (int i = 0; i < 86; i++) {
            int who = i / 43;
            int stage = i % 43;
            all.add(new Reading("stage(" + who + ", " + stage + ")", y -> y.stage(who, stage)));
        }
        all.add(new Reading("lost()", y -> y.lost()));
        return all;
    }

    /** One older than all that are kept and one younger are read, too. */
    private static void addRow(List<Reading> all, String name, int total, int kept, int columns) {
        for (int k = total - kept - 1; k <= total; k++) {
            for (int i = 0; i < columns; i++) {
                int number = k;
                int what = i;
                all.add(new Reading(name + "(" + k + ", " + i + ")", y -> name.equals("delivered") ? y.delivered(number, what)
                    : name.equals("turn") ? y.turn(number, what) : y.judged(number, what)));
            }
        }
    }

    /** Runs of calls that show what can't be read at once, such as where a step or a cell stands. */
    private static List<List<Reading>> nextCalls() {
        List<Reading> taking = new ArrayList<>();
        for (int n : new int[] {1, 7, 40, 9600}) {
            taking.add(new Reading("take(" + n + ")", y -> y.take(n)));
            taking.addAll(numbers().subList(0, 42));
        }
        List<Reading> sending = new ArrayList<>();
        sending.add(new Reading("send(77, 3)", y -> y.send(77, 3)));
        sending.add(new Reading("rest(2)", y -> y.rest(2)));
        sending.add(new Reading("take(9600)", y -> y.take(9600)));
        sending.addAll(numbers());
        List<Reading> disturbing = new ArrayList<>();
        disturbing.add(new Reading("slip(at AT, 3, 5)", y -> y.slip(y.told(1), 3, 5)));
        disturbing.add(new Reading("flip(AT)", y -> y.flip(y.told(1))));
        disturbing.add(new Reading("drop(AT, 1)", y -> y.drop(y.told(1), 1)));
        disturbing.add(new Reading("bits(7, 93)", y -> y.bits(7, 93)));
        disturbing.add(new Reading("until(2)", y -> y.until(2)));
        disturbing.add(new Reading("take(9600)", y -> y.take(9600)));
        disturbing.addAll(numbers());
        List<Reading> anew = new ArrayList<>();
        anew.add(new Reading("empty()", y -> y.empty()));
        anew.add(new Reading("fresh()", y -> y.fresh()));
        anew.add(new Reading("rest(9)", y -> y.rest(9)));
        anew.add(new Reading("take(9600)", y -> y.take(9600)));
        anew.addAll(numbers());
        return List.of(taking, sending, disturbing, anew);
    }

    /** Cells of four bytes (72 bits); sure behind one right check in NEAR, lost by two wrong ones. */
    static void small(Finder x) {
        x.terms(0, 4);
        x.terms(1, 2);
        x.terms(2, 1);
        x.terms(4, 40);
    }

    /** Headers 100, 101 and on, seeds 0, 1 and on, on a line of small cells. */
    static void sending(Finder x, int cells) {
        small(x);
        for (int i = 0; i < cells; i++) {
            x.send(100 + i, i);
        }
    }

    static Finder sent(int cells) {
        return behind(x -> sending(x, cells));
    }

    static Finder resting(int cells) {
        return behind(x -> rested(x, cells));
    }

    static void rested(Finder x, int cells) {
        small(x);
        for (int left = cells; left > 0; left -= 20) {
            x.rest(Math.min(left, 20));
        }
    }

    /** Zeros never look right: the check of header 0 is 85. */
    static void zeros(Finder x, int n) {
        int left = n;
        for (; left >= 160; left -= 160) {
            x.feed(0, 0, 0, 0, 0);
        }
        for (; left > 0; left -= 32) {
            x.bits(Math.min(left, 32), 0);
        }
    }

    /** Small cells of zeros on the line, each with its check: nothing looks right but at their beginnings. */
    static void plain(Finder x, int cells) {
        small(x);
        for (int bit = 0; bit < 72 * cells; bit += 160) {
            int[] words = new int[5];
            for (int i = 0; i < 160; i++) {
                int place = (bit + i) % 72;
                boolean isOne = place >= 32 && place < 40 && place % 2 == 1;
                words[i / 32] = words[i / 32] << 1 | (isOne ? 1 : 0);
            }
            x.feed(words[0], words[1], words[2], words[3], words[4]);
        }
        int more = x.told(0) - 72 * cells;
        if (more > 0) {
            x.drop(72 * cells, more);
        }
    }

    static Finder full() {
        return behind(Edges::fill);
    }

    static void fill(Finder x) {
        zeros(x, 9600);
    }

    /** Mended, dropped and strange cells were seen, a header is begun, much is left to take. */
    static void busy(Finder x) {
        sending(x, 12);
        x.terms(1, 3);
        x.flip(72 * 2 + 5);
        x.flip(72 * 3 + 6);
        x.flip(72 * 4 + 50);
        x.flip(72 * 9 + 7);
        x.take(72 * 6 + 11);
    }

    static long numberAt(Finder x, int i, int n) {
        long v = 0;
        for (int j = 0; j < n; j++) {
            v = 2 * v + x.bit(i + j);
        }
        return v;
    }

    /** All bits of the line behind a run, read of as many objects as that needs. */
    static int[] lineOf(Run run) {
        Finder x = behind(run);
        int[] bits = new int[x.told(0)];
        for (int i = 0; i < bits.length; i++) {
            if (x.callsLeft() == 0) {
                x = behind(run);
            }
            bits[i] = x.bit(i);
        }
        return bits;
    }

    /** Puts some of these bits on the line. */
    static void put(Finder x, int[] bits, int from, int to) {
        for (int i = from; i < to; i += 32) {
            int n = Math.min(32, to - i);
            int v = 0;
            for (int j = 0; j < n; j++) {
                v = v << 1 | bits[i + j];
            }
            x.bits(n, v);
        }
    }

    static void flipAll(Finder x, int... places) {
        for (int i : places) {
            x.flip(i);
        }
    }
}
