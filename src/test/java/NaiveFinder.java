import java.math.BigInteger;
import java.util.ArrayList;
import java.util.Arrays;
import java.util.List;
import java.util.TreeMap;

/**
 * The document told a second time, with whole lists and the Java library, so that
 * random runs of CellFinder have something to be held against. It shares no code
 * with the class: nothing is kept up bit by bit that can be looked up in a list.
 */
final class NaiveFinder {
    static final int[][] RANGES = {{4, 48}, {1, 15}, {1, 15}, {0, 1}, {40, 4000}, {0, 1}, {1, 8}};

    static final class Cell {
        int header;
        List<Integer> load;
        boolean mended;
        int place;

        boolean isLike(Cell other) {
            return header == other.header && load.equals(other.load);
        }
    }

    final class Receiver {
        int[] terms;
        int state;
        int right;
        int wrong;
        int mode;
        List<Integer> all = new ArrayList<>();
        List<Integer> raw = new ArrayList<>(java.util.Collections.nCopies(43, 0));
        List<Integer> plain;
        List<Integer> head;
        boolean good;
        Cell cell;
        int inThisHunt;
        Boolean wasSure = null;
        int still;
        boolean alarm;
        int alarms;
        int[] bitsIn = new int[3];
        List<int[]> turns = new ArrayList<>();
        List<int[]> judged = new ArrayList<>();
        List<Cell> delivered = new ArrayList<>();
        int idle;
        int strange;
        int lastPlain = -1;

        Receiver(int[] terms) {
            this.terms = terms;
        }

        Receiver copy() {
            Receiver r = new Receiver(terms.clone());
            r.state = state;
            r.right = right;
            r.wrong = wrong;
            r.mode = mode;
            r.all = new ArrayList<>(all);
            r.raw = new ArrayList<>(raw);
            r.plain = plain == null ? null : new ArrayList<>(plain);
            r.head = head == null ? null : new ArrayList<>(head);
            r.good = good;
            r.cell = cell;
            r.inThisHunt = inThisHunt;
            r.wasSure = wasSure;
            r.still = still;
            r.alarm = alarm;
            r.alarms = alarms;
            r.bitsIn = bitsIn.clone();
            r.turns = new ArrayList<>(turns);
            r.judged = new ArrayList<>(judged);
            r.delivered = new ArrayList<>(delivered);
            r.idle = idle;
            r.strange = strange;
            return r;
        }

        void turn(int to, int at) {
            turns.add(new int[] {at, state, to});
            state = to;
            plain = null;
            head = null;
            good = false;
            inThisHunt = 0;
            if (to != 0) {
                plain = new ArrayList<>();
            }
        }

        void bit(int b, int at) {
            lastPlain = -1;
            all.add(b);
            bitsIn[state]++;
            if (state == 0) {
                inThisHunt++;
                if (inThisHunt % terms[6] == 0 && all.size() >= 40 && syndromeOf(tail(all, 40)) == 0) {
                    right = 0;
                    turn(1, at);
                }
            } else if (plain != null) {
                lastPlain = b ^ raw.get(raw.size() - 43);
                raw.add(b);
                plain.add(lastPlain);
                if (plain.size() == 8 * terms[0]) {
                    loadEnds();
                }
            } else {
                head.add(b);
                if (head.size() == 40) {
                    checkEnds(at);
                }
            }
            boolean isSure = state == 2;
            still = wasSure != null && wasSure == isSure ? still + 1 : 1;
            wasSure = isSure;
            if (still >= terms[4]) {
                if (state == 2) {
                    alarm = false;
                } else if (!alarm) {
                    alarm = true;
                    alarms++;
                }
            }
        }

        void loadEnds() {
            if (good) {
                Cell c = new Cell();
                c.header = cell.header;
                c.mended = cell.mended;
                c.place = cell.place;
                c.load = new ArrayList<>();
                for (int i = 0; i < plain.size(); i += 8) {
                    c.load.add((int) numberOf(plain.subList(i, i + 8)));
                }
                if (terms[5] == 1 && c.header == 1) {
                    idle++;
                } else {
                    delivered.add(c);
                    if (found(c) < 0) {
                        strange++;
                    }
                }
            }
            good = false;
            plain = null;
            head = new ArrayList<>();
        }

        void checkEnds(int at) {
            int syndrome = syndromeOf(head);
            int verdict;
            Cell c = new Cell();
            c.place = at - 40;
            List<Integer> mendedBits = new ArrayList<>(head);
            head = null;
            plain = new ArrayList<>();
            if (syndrome == 0) {
                verdict = 0;
                if (state == 1) {
                    right++;
                    if (right >= terms[2]) {
                        turn(2, at);
                    }
                }
                good = state == 2;
                if (good) {
                    wrong = 0;
                    mode = 1;
                }
            } else if (state == 1) {
                verdict = 3;
                turn(0, at);
            } else {
                wrong++;
                if (wrong >= terms[1]) {
                    verdict = 3;
                    turn(0, at);
                } else {
                    int b = single(syndrome);
                    if (mode == 1 && terms[3] == 1 && b >= 0) {
                        verdict = 1;
                        mendedBits.set(b, 1 - mendedBits.get(b));
                        c.mended = true;
                        good = true;
                    } else {
                        verdict = 2;
                        good = false;
                    }
                    mode = 0;
                }
            }
            c.header = (int) numberOf(mendedBits.subList(0, 32));
            cell = c;
            judged.add(new int[] {at - 40, syndrome, verdict});
        }

        int verdicts(int v) {
            int n = 0;
            for (int[] j : judged) {
                n += j[2] == v ? 1 : 0;
            }
            return n;
        }

        int turnsOf(int from, int to) {
            int n = 0;
            for (int[] t : turns) {
                n += (from < 0 || t[1] == from) && (to < 0 || t[2] == to) ? 1 : 0;
            }
            return n;
        }
    }

    List<Integer> line = new ArrayList<>();
    int at = 0;
    List<Cell> sent = new ArrayList<>();
    List<Integer> sentRaw = new ArrayList<>(java.util.Collections.nCopies(43, 0));
    int[] terms = {48, 7, 6, 1, 800, 0, 1};
    Receiver receiver = new Receiver(terms);

    static List<Integer> tail(List<Integer> l, int n) {
        return l.subList(l.size() - n, l.size());
    }

    static long numberOf(List<Integer> bits) {
        long v = 0;
        for (int b : bits) {
            v = 2 * v + b;
        }
        return v;
    }

    /** Long division by x^8 + x^2 + x + 1. */
    static int restOf(long polynomial) {
        for (int i = 62; i >= 8; i--) {
            if ((polynomial >>> i & 1) == 1) {
                polynomial ^= 0b100000111L << (i - 8);
            }
        }
        return (int) polynomial;
    }

    static int syndromeOf(List<Integer> bits) {
        int header = (int) numberOf(bits.subList(0, 32));
        return checkOf(header) ^ (int) numberOf(bits.subList(32, 40));
    }

    static int checkOf(int header) {
        return restOf((header & 0xFFFFFFFFL) << 8) ^ 85;
    }

    static List<Integer> bitsOf(long v, int n) {
        List<Integer> l = new ArrayList<>();
        for (int i = n - 1; i >= 0; i--) {
            l.add((int) (v >>> i & 1));
        }
        return l;
    }

    int found(Cell c) {
        for (int i = 0; i < sent.size(); i++) {
            if (sent.get(i).isLike(c)) {
                return i;
            }
        }
        return -1;
    }

    int left() {
        return line.size() - at;
    }

    int cellBits() {
        return 40 + 8 * terms[0];
    }

    public int feed(int a, int b, int c, int d, int e) {
        if (line.size() + 160 > 9600) {
            return -4;
        }
        for (int v : new int[] {a, b, c, d, e}) {
            line.addAll(bitsOf(v, 32));
        }
        return line.size();
    }

    public int bits(int n, int v) {
        if (n < 1 || n > 32) {
            return -3;
        }
        if (line.size() + n > 9600) {
            return -4;
        }
        line.addAll(bitsOf(v, n));
        return line.size();
    }

    void put(int header, List<Integer> load) {
        Cell c = new Cell();
        c.header = header;
        c.load = load;
        sent.add(c);
        line.addAll(bitsOf(header, 32));
        line.addAll(bitsOf(checkOf(header), 8));
        for (int v : load) {
            for (int b : bitsOf(v, 8)) {
                int out = b ^ sentRaw.get(sentRaw.size() - 43);
                sentRaw.add(out);
                line.add(out);
            }
        }
    }

    public int send(int header, int seed) {
        if (seed < 0 || seed > 1000003) {
            return -3;
        }
        if (line.size() + cellBits() > 9600 || sent.size() >= 64) {
            return -4;
        }
        List<Integer> load = new ArrayList<>();
        long s = seed;
        for (int i = 0; i < terms[0]; i++) {
            s = (s * 1103 + 12345) % 1000003;
            load.add((int) (s % 256));
        }
        put(header, load);
        return sent.size() - 1;
    }

    public int rest(int n) {
        if (n < 1 || n > 20) {
            return -3;
        }
        if (line.size() + n * cellBits() > 9600 || sent.size() + n > 64) {
            return -4;
        }
        for (int i = 0; i < n; i++) {
            put(1, new ArrayList<>(java.util.Collections.nCopies(terms[0], 106)));
        }
        return sent.size();
    }

    boolean noBit(int i) {
        return i < 0 || i >= line.size();
    }

    public int flip(int i) {
        if (noBit(i)) {
            return -2;
        }
        if (i < at) {
            return -5;
        }
        line.set(i, 1 - line.get(i));
        return line.get(i);
    }

    public int drop(int i, int n) {
        if (noBit(i)) {
            return -2;
        }
        if (n < 1 || n > 400 || i + n > line.size()) {
            return -3;
        }
        if (i < at) {
            return -5;
        }
        line.subList(i, i + n).clear();
        return line.size();
    }

    public int slip(int i, int n, int v) {
        if (i < 0 || i > line.size()) {
            return -2;
        }
        if (n < 1 || n > 32) {
            return -3;
        }
        if (line.size() + n > 9600) {
            return -4;
        }
        if (i < at) {
            return -5;
        }
        line.addAll(i, bitsOf(v, n));
        return line.size();
    }

    public int disturb(int i, int n, int k, int seed) {
        if (noBit(i)) {
            return -2;
        }
        if (n < 1 || n > 2000 || i + n > line.size() || k < 1 || k > 1000 || seed < 0 || seed > 1000003) {
            return -3;
        }
        if (i < at) {
            return -5;
        }
        long s = seed;
        int many = 0;
        for (int j = i; j < i + n; j++) {
            s = (s * 1103 + 12345) % 1000003;
            if (s % k == 0) {
                line.set(j, 1 - line.get(j));
                many++;
            }
        }
        return many;
    }

    public int bit(int i) {
        return noBit(i) ? -1 : line.get(i);
    }

    public int empty() {
        int n = line.size();
        line.clear();
        sent.clear();
        at = 0;
        sentRaw = new ArrayList<>(java.util.Collections.nCopies(43, 0));
        return n;
    }

    public int terms(int what, int v) {
        if (what < 0 || what > 6) {
            return -2;
        }
        if (v < RANGES[what][0] || v > RANGES[what][1]) {
            return -3;
        }
        if (what == 0 && (!sent.isEmpty() || receiver.state != 0 || !receiver.delivered.isEmpty())) {
            return -5;
        }
        int was = terms[what];
        terms[what] = v;
        return was;
    }

    public int take(int n) {
        if (n < 1 || n > 9600) {
            return -3;
        }
        for (int i = 0; i < n && at < line.size(); i++) {
            receiver.bit(line.get(at), at + 1);
            at++;
        }
        return receiver.state;
    }

    public int fresh() {
        int had = receiver.delivered.size();
        receiver = new Receiver(terms);
        return had;
    }

    public int stage(int who, int i) {
        if (who < 0 || who > 1 || i < 0 || i > 42) {
            return -2;
        }
        List<Integer> raw = who == 0 ? sentRaw : receiver.raw;
        return raw.get(raw.size() - 1 - i);
    }

    public int stages(int a, int b) {
        if (a < 0 || a > 2047) {
            return -3;
        }
        receiver.raw = new ArrayList<>(bitsOf(b, 32));
        receiver.raw.addAll(bitsOf(a, 11));
        int ones = 0;
        for (int v : receiver.raw) {
            ones += v;
        }
        return ones;
    }

    public int state(int what) {
        Receiver r = receiver;
        switch (what) {
            case 0: return r.state;
            case 1: return r.right;
            case 2: return r.wrong;
            case 3: return r.mode;
            case 4: return r.plain == null ? 0 : r.plain.size();
            case 5: return r.head == null ? 0 : r.head.size();
            case 6: return r.good ? 1 : 0;
            case 7: return r.all.size() < 40 ? -1 : syndromeOf(tail(r.all, 40));
            case 8: return r.all.size();
            case 9: return r.alarm ? 1 : 0;
            case 10: return r.still;
            default: return -2;
        }
    }

    public int count(int what) {
        Receiver r = receiver;
        switch (what) {
            case 0: return r.verdicts(0);
            case 1: return r.verdicts(1);
            case 2: return r.verdicts(2);
            case 3: return r.delivered.size();
            case 4: return r.turnsOf(-1, 2);
            case 5: return r.turnsOf(2, -1);
            case 6: return r.bitsIn[0];
            case 7: return r.turns.size();
            case 8: return r.judged.size();
            case 9: return r.strange;
            case 10: return r.idle;
            case 11: return r.alarms;
            case 12: return r.bitsIn[1];
            case 13: return r.bitsIn[2];
            default: return -2;
        }
    }

    static boolean isKept(List<?> l, int k, int kept) {
        return k >= 0 && k < l.size() && k >= l.size() - kept;
    }

    public int delivered(int k, int what) {
        if (what < 0 || what > 3 || !isKept(receiver.delivered, k, 12)) {
            return -2;
        }
        Cell c = receiver.delivered.get(k);
        return what == 0 ? c.header : what == 1 ? (c.mended ? 1 : 0) : what == 2 ? c.place : found(c);
    }

    public int load(int k, int i) {
        if (!isKept(receiver.delivered, k, 12)) {
            return -2;
        }
        List<Integer> load = receiver.delivered.get(k).load;
        return i < 0 || i >= load.size() ? -1 : load.get(i);
    }

    public int field(int k, int what) {
        if (what < 0 || what > 4 || !isKept(receiver.delivered, k, 12)) {
            return -2;
        }
        int[] from = {0, 4, 12, 28, 31, 32};
        List<Integer> bits = bitsOf(receiver.delivered.get(k).header, 32);
        return (int) numberOf(bits.subList(from[what], from[what + 1]));
    }

    public int judged(int k, int what) {
        return what < 0 || what > 2 || !isKept(receiver.judged, k, 32) ? -2 : receiver.judged.get(k)[what];
    }

    public int turn(int k, int what) {
        return what < 0 || what > 2 || !isKept(receiver.turns, k, 24) ? -2 : receiver.turns.get(k)[what];
    }

    public int lost() {
        int n = 0;
        for (int s = 0; s < sent.size(); s++) {
            boolean isFound = false;
            for (int k = 0; k < receiver.delivered.size(); k++) {
                isFound |= isKept(receiver.delivered, k, 12) && found(receiver.delivered.get(k)) == s;
            }
            n += isFound ? 0 : 1;
        }
        return n;
    }

    Receiver ran(Receiver r, int from, int to, int flipped) {
        for (int p = from; p < to && p < line.size(); p++) {
            r.bit(p == flipped ? 1 - line.get(p) : line.get(p), p + 1);
        }
        return r;
    }

    public int look(int n) {
        return n < 0 || n > 9600 ? -3 : ran(receiver.copy(), at, at + n, -1).state;
    }

    public int until(int state) {
        if (state < 0 || state > 2) {
            return -3;
        }
        Receiver r = receiver.copy();
        for (int p = at; p <= line.size(); p++) {
            if (r.state == state) {
                return p - at;
            }
            ran(r, p, p + 1, -1);
        }
        return -1;
    }

    public int would(int i, int what) {
        if (noBit(i) || what < 0 || what > 5) {
            return -2;
        }
        if (i < at) {
            return -5;
        }
        Receiver r = ran(receiver.copy(), at, line.size(), i);
        int[] answers = {r.delivered.size(), r.verdicts(1), r.verdicts(2), r.turnsOf(2, -1), r.state, r.strange};
        return answers[what];
    }

    public int worst() {
        int best = -1;
        int fewest = Integer.MAX_VALUE;
        for (int i = at; i < line.size() && i < at + 48; i++) {
            int many = ran(receiver.copy(), at, at + 4800, i).delivered.size();
            if (many < fewest) {
                fewest = many;
                best = i;
            }
        }
        return best;
    }

    /** Runs till a turn to SURE behind the bits that were taken so far. */
    int tillSure(Receiver r, int from) {
        for (int p = from; p < line.size(); p++) {
            int turns = r.turns.size();
            ran(r, p, p + 1, -1);
            if (r.turns.size() > turns && r.state == 2) {
                return p + 1 - from;
            }
        }
        return -1;
    }

    public int regained(int n) {
        return n < 1 || n > 400 || n > left() ? -3 : tillSure(receiver.copy(), at + n);
    }

    public int spread(int i, int k) {
        if (noBit(i)) {
            return -2;
        }
        if (k < -1) {
            return -3;
        }
        if (i < at) {
            return -5;
        }
        Receiver a = receiver.copy();
        Receiver b = receiver.copy();
        List<Integer> places = new ArrayList<>();
        for (int p = at; p < line.size(); p++) {
            ran(a, p, p + 1, -1);
            ran(b, p, p + 1, i);
            if (a.lastPlain + b.lastPlain == 1 && a.lastPlain >= 0 && b.lastPlain >= 0) {
                places.add(p);
            }
        }
        return told(places, k);
    }

    static int told(List<Integer> places, int k) {
        return k == -1 ? places.size() : k < places.size() ? places.get(k) : -1;
    }

    boolean looksRight(int p) {
        return p + 40 <= line.size() && syndromeOf(line.subList(p, p + 40)) == 0;
    }

    public int rights(int i, int n, int k) {
        if (noBit(i)) {
            return -2;
        }
        if (n < 1 || n > 2000 || k < -1) {
            return -3;
        }
        List<Integer> places = new ArrayList<>();
        for (int p = i; p < i + n; p++) {
            if (looksRight(p)) {
                places.add(p);
            }
        }
        return told(places, k);
    }

    public int phase(int what) {
        if (what < 0 || what > 1) {
            return -2;
        }
        TreeMap<Integer, Integer> many = new TreeMap<>();
        for (int p = at; p < line.size(); p++) {
            if (looksRight(p)) {
                many.merge((p - at) % cellBits(), 1, Integer::sum);
            }
        }
        int best = -1;
        for (int key : many.keySet()) {
            if (best < 0 || many.get(key) > many.get(best)) {
                best = key;
            }
        }
        return best < 0 || what == 0 ? best : many.get(best);
    }

    public int tuned(int what) {
        if (what < 1 || what > 3) {
            return -2;
        }
        int best = -1;
        int most = Integer.MIN_VALUE;
        for (int v = RANGES[what][0]; v <= RANGES[what][1]; v++) {
            Receiver r = receiver.copy();
            r.terms[what] = v;
            ran(r, at, line.size(), -1);
            int worth = r.delivered.size() - 2 * r.strange;
            if (worth > most) {
                most = worth;
                best = v;
            }
        }
        return best;
    }

    public int starts(int what) {
        if (what < 0 || what > 3) {
            return -2;
        }
        int[] answers = new int[4];
        for (int i = 0; i < 64; i++) {
            Receiver r = new Receiver(terms.clone());
            int took = tillSure(r, at + i);
            if (took >= 0) {
                answers[0]++;
                answers[1] += took;
                answers[2] = Math.max(answers[2], took);
            }
            answers[3] += r.turnsOf(1, 0) > 0 ? 1 : 0;
        }
        return answers[what];
    }

    public int check(int header) {
        return checkOf(header);
    }

    public int syndrome(int header, int check) {
        return check < 0 || check > 255 ? -3 : checkOf(header) ^ check;
    }

    /** The syndrome of the bits alone, without 85. */
    static int made(int... bits) {
        long v = 0;
        for (int b : bits) {
            v ^= 1L << (39 - b);
        }
        return restOf(v);
    }

    public int single(int syndrome) {
        if (syndrome < 0 || syndrome > 255) {
            return -3;
        }
        for (int i = 0; i < 40; i++) {
            if (made(i) == syndrome) {
                return i;
            }
        }
        return -1;
    }

    public int latest(int what) {
        if (what < 0 || what > 2) {
            return -2;
        }
        int most = -1;
        int by = -1;
        int many = 0;
        for (int n = 1; n <= 64 && n <= left(); n++) {
            int took = regained(n);
            many += took >= 0 ? 1 : 0;
            if (took > most) {
                most = took;
                by = n;
            }
        }
        return what == 0 ? most : what == 1 ? by : many;
    }

    public int pairs(int syndrome, int k) {
        if (syndrome < 0 || syndrome > 255 || k < -1) {
            return -3;
        }
        List<Integer> pairs = new ArrayList<>();
        for (int a = 0; a < 40; a++) {
            for (int b = a + 1; b < 40; b++) {
                if (made(a, b) == syndrome) {
                    pairs.add(100 * a + b);
                }
            }
        }
        return told(pairs, k);
    }

    public int nearest(int syndrome, int k) {
        if (syndrome < 0 || syndrome > 255 || k < -1) {
            return -3;
        }
        for (int n = 0; n <= 4; n++) {
            List<Integer> row = firstRow(syndrome, n);
            if (row != null) {
                return told(row, k);
            }
        }
        throw new AssertionError("more than four bits are needed for " + syndrome);
    }

    /** The first of the rows of n bits, by going through all of them in their order. */
    static List<Integer> firstRow(int syndrome, int n) {
        int[] row = new int[n];
        for (int i = 0; i < n; i++) {
            row[i] = i;
        }
        while (true) {
            if (made(row) == syndrome) {
                List<Integer> l = new ArrayList<>();
                for (int b : row) {
                    l.add(b);
                }
                return l;
            }
            int i = n - 1;
            while (i >= 0 && row[i] == 40 - n + i) {
                i--;
            }
            if (i < 0) {
                return null;
            }
            row[i]++;
            for (int j = i + 1; j < n; j++) {
                row[j] = row[j - 1] + 1;
            }
        }
    }

    public int mending(int header, int check, int what) {
        if (what < 0 || what > 2) {
            return -2;
        }
        if (check < 0 || check > 255) {
            return -3;
        }
        int s = checkOf(header) ^ check;
        int b = single(s);
        long both = (header & 0xFFFFFFFFL) << 8 | check;
        if (b >= 0) {
            both ^= 1L << (39 - b);
        }
        return what == 0 ? (s == 0 ? 0 : b >= 0 ? 1 : 2) : what == 1 ? (int) (both >> 8) : (int) (both & 255);
    }

    private long[][] bySyndrome;

    /** Rows of each weight by their syndrome, one bit of the forty behind the other. */
    long[][] rowsBySyndrome() {
        if (bySyndrome == null) {
            long[][] many = new long[42][256];
            many[0][0] = 1;
            for (int b = 0; b < 40; b++) {
                long[][] next = new long[42][256];
                for (int w = 0; w <= 40; w++) {
                    for (int s = 0; s < 256; s++) {
                        next[w][s] += many[w][s];
                        next[w + 1][s ^ made(b)] += many[w][s];
                    }
                }
                many = next;
            }
            bySyndrome = many;
        }
        return bySyndrome;
    }

    public long words(int w) {
        return w < 0 || w > 40 ? -3 : rowsBySyndrome()[w][0];
    }

    public long cases(int w, int what) {
        if (what < 0 || what > 2) {
            return -2;
        }
        if (w < 0 || w > 40) {
            return -3;
        }
        long[] answers = new long[3];
        for (int s = 0; s < 256; s++) {
            answers[s == 0 ? 0 : single(s) >= 0 ? 1 : 2] += rowsBySyndrome()[w][s];
        }
        return answers[what];
    }

    static long byBits(BigInteger n, BigInteger d, int what) {
        double q = (double) n.longValueExact() / (double) d.longValueExact();
        long bits = Double.doubleToLongBits(q);
        switch (what) {
            case 0: return n.longValueExact();
            case 1: return d.longValueExact();
            case 2: return (int) (bits >> 32);
            case 3: return (int) bits;
            default: return Float.floatToIntBits((float) q);
        }
    }

    public long unseen(int w, int what) {
        if (what < 0 || what > 4) {
            return -2;
        }
        if (w < 0 || w > 40) {
            return -3;
        }
        return byBits(BigInteger.valueOf(words(w)), BigInteger.valueOf(Arrays.stream(rowsBySyndrome()[w]).sum()), what);
    }

    /** All rows of right and wrong cells, one by one: 2 to the n of them, each with its weight. */
    BigInteger ways(int which, int n, int w) {
        BigInteger sum = BigInteger.ZERO;
        for (int row = 0; row < 1 << n; row++) {
            int state = which == 0 ? 2 : 1;
            int run = 0;
            boolean isThere = false;
            BigInteger weight = BigInteger.ONE;
            for (int i = 0; i < n; i++) {
                boolean looksRight = (row >> i & 1) == 1;
                weight = weight.multiply(BigInteger.valueOf(looksRight ? w : 256 - w));
                if (which == 0) {
                    run = looksRight ? 0 : run + 1;
                    isThere |= run >= terms[1];
                } else if (state == 0) {
                    state = looksRight ? 1 : 0;
                    run = 0;
                } else if (state == 1) {
                    run++;
                    state = looksRight ? (run >= terms[2] ? 2 : 1) : 0;
                    isThere |= state == 2;
                }
            }
            if (isThere) {
                sum = sum.add(weight);
            }
        }
        return sum;
    }

    public long odds(int which, int n, int w, int what) {
        if (which < 0 || which > 1 || what < 0 || what > 4) {
            return -2;
        }
        if (n < 0 || n > 7 || w < 0 || w > 256) {
            return -3;
        }
        return byBits(ways(which, n, w), BigInteger.valueOf(256).pow(n), what);
    }

    public long mean(int which, int w, int part) {
        if (which < 0 || which > 1 || part < 0 || part > 1) {
            return -2;
        }
        if (w < 0 || w > 256) {
            return -3;
        }
        if (which == 0 ? w == 256 : w == 0) {
            return -5;
        }
        double m = 0;
        for (int i = 0; i < (which == 0 ? terms[1] : terms[2] + 1); i++) {
            m = (m + 1) / (which == 0 ? (256 - w) / 256.0 : w / 256.0);
        }
        long bits = Double.doubleToLongBits(m);
        return part == 0 ? (int) (bits >> 32) : (int) bits;
    }

    public int half(int which, int w) {
        if (which < 0 || which > 1) {
            return -2;
        }
        if (w < 0 || w > 256) {
            return -3;
        }
        for (int n = 0; n <= 7; n++) {
            if (ways(which, n, w).shiftLeft(1).compareTo(BigInteger.valueOf(256).pow(n)) >= 0) {
                return n;
            }
        }
        return -1;
    }

    public int told(int what) {
        return what == 0 ? line.size() : what == 1 ? at : what == 2 ? sent.size()
            : what >= 10 && what <= 16 ? terms[what - 10] : -1;
    }
}
