import java.util.Arrays;

/**
 * Cells found on a raw line of bits: a sender, a line that is disturbed, a
 * receiver that hunts for right checks, and what can be said of them on paper.
 */
public final class CellFinder {
    /** There is none. */
    public static final int NONE = -1;

    private static final int NO_SUCH = -2;
    private static final int CANNOT_BE = -3;
    private static final int TOO_MANY = -4;
    private static final int NOT_NOW = -5;

    private static final int LINE_BITS = 9600;
    private static final int CELLS_SENT = 64;
    private static final int LOAD_BYTES = 48;
    private static final int HEAD_BITS = 40;
    private static final int CELL_BITS = HEAD_BITS + 8 * LOAD_BYTES;
    private static final int STAGES = 43;
    private static final int GREATEST_SEED = 1000003;
    private static final int IDLE_HEADER = 1;
    private static final int IDLE_BYTE = 106;

    private static final int TERM_LOAD = 0;
    private static final int TERM_ALPHA = 1;
    private static final int TERM_DELTA = 2;
    private static final int TERM_MENDS = 3;
    private static final int TERM_PATIENCE = 4;
    private static final int TERM_IDLES = 5;
    private static final int TERM_STEP = 6;
    private static final int TERMS = 7;
    private static final int[] LEAST = {4, 1, 1, 0, 40, 0, 1};
    private static final int[] GREATEST = {48, 15, 15, 1, 4000, 1, 8};
    private static final int[] AT_FIRST = {48, 7, 6, 1, 800, 0, 1};

    private static final int HUNT = 0;
    private static final int NEAR = 1;
    private static final int SURE = 2;

    private static final int VERDICT_RIGHT = 0;
    private static final int VERDICT_MENDED = 1;
    private static final int VERDICT_DROPPED = 2;
    private static final int VERDICT_HUNT = 3;

    private static final int LOOKED_RIGHT = 0;
    private static final int MENDED = 1;
    private static final int DROPPED = 2;
    private static final int DELIVERED = 3;
    private static final int BECAME_SURE = 4;
    private static final int LEFT_SURE = 5;
    private static final int TAKEN_IN_HUNT = 6;
    private static final int TURNS = 7;
    private static final int JUDGED = 8;
    private static final int STRANGE = 9;
    private static final int IDLE = 10;
    private static final int ALARMS = 11;
    private static final int TAKEN_IN_NEAR = 12;
    private static final int TAKEN_IN_SURE = 13;
    private static final int COUNTS = 14;

    private static final int LOST = 0;
    private static final int GAINED = 1;

    private static final int WORST_OF = 48;
    private static final int WORST_TAKES = 4800;
    private static final int LATEST_OF = 64;
    private static final int STARTS_OF = 64;

    private final int[] terms;
    private final Line line;
    private final Sender sender;
    private final Log log;
    private final Receiver receiver;
    private final Receiver paper;
    private final Receiver otherPaper;
    private final Window scan;
    private final int[] tally;
    private final Checks checks;
    private final Weights weights;
    private final Ladder ladder;

    public CellFinder() {
        terms = AT_FIRST.clone();
        line = new Line();
        sender = new Sender();
        log = new Log();
        receiver = new Receiver(terms, sender, log);
        paper = new Receiver(AT_FIRST.clone(), sender, null);
        otherPaper = new Receiver(AT_FIRST.clone(), sender, null);
        scan = new Window();
        tally = new int[CELL_BITS];
        checks = new Checks();
        weights = new Weights();
        ladder = new Ladder();
    }

    // ---- the line

    public int feed(int a, int b, int c, int d, int e) {
        if (!line.hasRoomFor(160)) {
            return TOO_MANY;
        }
        line.append(32, a);
        line.append(32, b);
        line.append(32, c);
        line.append(32, d);
        line.append(32, e);
        return line.size;
    }

    public int bits(int n, int v) {
        if (!isWithin(n, 1, 32)) {
            return CANNOT_BE;
        }
        if (!line.hasRoomFor(n)) {
            return TOO_MANY;
        }
        line.append(n, v);
        return line.size;
    }

    public int send(int header, int seed) {
        if (!isWithin(seed, 0, GREATEST_SEED)) {
            return CANNOT_BE;
        }
        if (!hasRoomForCells(1)) {
            return TOO_MANY;
        }
        sender.fillBySeed(seed, terms[TERM_LOAD]);
        sender.putCell(line, header, terms[TERM_LOAD]);
        return sender.count - 1;
    }

    public int rest(int n) {
        if (!isWithin(n, 1, 20)) {
            return CANNOT_BE;
        }
        if (!hasRoomForCells(n)) {
            return TOO_MANY;
        }
        for (int i = 0; i < n; i++) {
            sender.fillIdle(terms[TERM_LOAD]);
            sender.putCell(line, IDLE_HEADER, terms[TERM_LOAD]);
        }
        return sender.count;
    }

    public int flip(int i) {
        if (!line.has(i)) {
            return NO_SUCH;
        }
        if (i < line.at) {
            return NOT_NOW;
        }
        line.toggle(i);
        return line.bitAt(i);
    }

    public int drop(int i, int n) {
        if (!line.has(i)) {
            return NO_SUCH;
        }
        if (!isWithin(n, 1, 400) || n > line.size - i) {
            return CANNOT_BE;
        }
        if (i < line.at) {
            return NOT_NOW;
        }
        line.cut(i, n);
        return line.size;
    }

    public int slip(int i, int n, int v) {
        if (!isWithin(i, 0, line.size)) {
            return NO_SUCH;
        }
        if (!isWithin(n, 1, 32)) {
            return CANNOT_BE;
        }
        if (!line.hasRoomFor(n)) {
            return TOO_MANY;
        }
        if (i < line.at) {
            return NOT_NOW;
        }
        line.insert(i, n, v);
        return line.size;
    }

    public int disturb(int i, int n, int k, int seed) {
        if (!line.has(i)) {
            return NO_SUCH;
        }
        if (!isWithin(n, 1, 2000) || n > line.size - i) {
            return CANNOT_BE;
        }
        if (!isWithin(k, 1, 1000) || !isWithin(seed, 0, GREATEST_SEED)) {
            return CANNOT_BE;
        }
        if (i < line.at) {
            return NOT_NOW;
        }
        int flipped = 0;
        int s = seed;
        for (int j = 0; j < n; j++) {
            s = Sender.following(s);
            if (s % k == 0) {
                line.toggle(i + j);
                flipped++;
            }
        }
        return flipped;
    }

    public int bit(int i) {
        return line.has(i) ? line.bitAt(i) : NONE;
    }

    public int empty() {
        int had = line.size;
        line.clear();
        sender.restart();
        return had;
    }

    public int terms(int what, int v) {
        if (!isWithin(what, 0, TERMS - 1)) {
            return NO_SUCH;
        }
        if (!isWithin(v, LEAST[what], GREATEST[what])) {
            return CANNOT_BE;
        }
        if (what == TERM_LOAD && isLoadHeld()) {
            return NOT_NOW;
        }
        int was = terms[what];
        terms[what] = v;
        return was;
    }

    // ---- the receiver

    public int take(int n) {
        if (!isWithin(n, 1, LINE_BITS)) {
            return CANNOT_BE;
        }
        int end = endOf(n);
        advance(receiver, end, NONE);
        line.at = end;
        return receiver.state;
    }

    public int fresh() {
        int had = receiver.counts[DELIVERED];
        receiver.restart();
        log.clear();
        return had;
    }

    public int stage(int who, int i) {
        if (!isWithin(who, 0, 1) || !isWithin(i, 0, STAGES - 1)) {
            return NO_SUCH;
        }
        return who == 0 ? sender.history.bitAgo(i) : receiver.history.bitAgo(i);
    }

    public int stages(int a, int b) {
        if (!isWithin(a, 0, 2047)) {
            return CANNOT_BE;
        }
        receiver.history.set(a, b);
        return receiver.history.ones();
    }

    public int state(int what) {
        switch (what) {
            case 0:
                return receiver.state;
            case 1:
                return receiver.right;
            case 2:
                return receiver.wrong;
            case 3:
                return receiver.mode;
            case 4:
                return receiver.loadTaken();
            case 5:
                return receiver.headTaken();
            case 6:
                return receiver.good ? 1 : 0;
            case 7:
                return receiver.window.isFull() ? receiver.window.syndromeNow() : NONE;
            case 8:
                return receiver.window.taken;
            case 9:
                return receiver.alarm ? 1 : 0;
            case 10:
                return receiver.still;
            default:
                return NO_SUCH;
        }
    }

    public int count(int what) {
        return isWithin(what, 0, COUNTS - 1) ? receiver.counts[what] : NO_SUCH;
    }

    public int delivered(int k, int what) {
        if (!isWithin(what, 0, 3) || !log.cells.keeps(k)) {
            return NO_SUCH;
        }
        return what == 3 ? foundOf(k) : log.cells.entry(k, what);
    }

    public int load(int k, int i) {
        if (!log.cells.keeps(k)) {
            return NO_SUCH;
        }
        return isWithin(i, 0, terms[TERM_LOAD] - 1) ? log.loadByte(k, i) : NONE;
    }

    public int field(int k, int what) {
        if (!isWithin(what, 0, 4) || !log.cells.keeps(k)) {
            return NO_SUCH;
        }
        int header = log.cells.entry(k, 0);
        switch (what) {
            case 0:
                return header >>> 28;
            case 1:
                return (header >>> 20) & 255;
            case 2:
                return (header >>> 4) & 65535;
            case 3:
                return (header >>> 1) & 7;
            default:
                return header & 1;
        }
    }

    public int judged(int k, int what) {
        if (!isWithin(what, 0, 2) || !log.checks.keeps(k)) {
            return NO_SUCH;
        }
        return log.checks.entry(k, what);
    }

    public int turn(int k, int what) {
        if (!isWithin(what, 0, 2) || !log.turns.keeps(k)) {
            return NO_SUCH;
        }
        return log.turns.entry(k, what);
    }

    public int lost() {
        long found = 0L;
        for (int k = log.cells.firstKept(); k < log.cells.total; k++) {
            int number = foundOf(k);
            if (number != NONE) {
                found |= 1L << number;
            }
        }
        return sender.count - Long.bitCount(found);
    }

    // ---- on paper

    public int look(int n) {
        if (!isWithin(n, 0, LINE_BITS)) {
            return CANNOT_BE;
        }
        paper.mirror(receiver);
        advance(paper, endOf(n), NONE);
        return paper.state;
    }

    public int until(int state) {
        if (!isWithin(state, HUNT, SURE)) {
            return CANNOT_BE;
        }
        if (receiver.state == state) {
            return 0;
        }
        paper.mirror(receiver);
        for (int place = line.at; place < line.size; place++) {
            paper.receive(line.bitAt(place), place + 1);
            if (paper.state == state) {
                return place + 1 - line.at;
            }
        }
        return NONE;
    }

    public int would(int i, int what) {
        if (!line.has(i) || !isWithin(what, 0, 5)) {
            return NO_SUCH;
        }
        if (i < line.at) {
            return NOT_NOW;
        }
        paper.mirror(receiver);
        advance(paper, line.size, i);
        switch (what) {
            case 0:
                return paper.counts[DELIVERED];
            case 1:
                return paper.counts[MENDED];
            case 2:
                return paper.counts[DROPPED];
            case 3:
                return paper.counts[LEFT_SURE];
            case 4:
                return paper.state;
            default:
                return paper.counts[STRANGE];
        }
    }

    public int worst() {
        int end = endOf(WORST_TAKES);
        int last = endOf(WORST_OF);
        int worst = NONE;
        int fewest = 0;
        for (int i = line.at; i < last; i++) {
            paper.mirror(receiver);
            advance(paper, end, i);
            if (worst == NONE || paper.counts[DELIVERED] < fewest) {
                worst = i;
                fewest = paper.counts[DELIVERED];
            }
        }
        return worst;
    }

    public int regained(int n) {
        if (!isWithin(n, 1, 400) || n > line.left()) {
            return CANNOT_BE;
        }
        paper.mirror(receiver);
        return bitsTillSure(line.at + n);
    }

    public int spread(int i, int k) {
        if (!line.has(i)) {
            return NO_SUCH;
        }
        if (k < NONE) {
            return CANNOT_BE;
        }
        if (i < line.at) {
            return NOT_NOW;
        }
        paper.mirror(receiver);
        otherPaper.mirror(receiver);
        int found = 0;
        for (int place = line.at; place < line.size; place++) {
            int bit = line.bitAt(place);
            int otherBit = place == i ? 1 - bit : bit;
            int plain = paper.plainOf(bit);
            int otherPlain = otherPaper.plainOf(otherBit);
            if (plain != NONE && otherPlain != NONE && plain != otherPlain) {
                if (found == k) {
                    return place;
                }
                found++;
            }
            paper.receive(bit, place + 1);
            otherPaper.receive(otherBit, place + 1);
        }
        return k == NONE ? found : NONE;
    }

    public int rights(int i, int n, int k) {
        if (!line.has(i)) {
            return NO_SUCH;
        }
        if (!isWithin(n, 1, 2000) || k < NONE) {
            return CANNOT_BE;
        }
        int end = Math.min(line.size, i + n + HEAD_BITS - 1);
        int found = 0;
        scan.clear();
        for (int place = i; place < end; place++) {
            scan.push(line.bitAt(place));
            if (scan.looksRight()) {
                if (found == k) {
                    return place + 1 - HEAD_BITS;
                }
                found++;
            }
        }
        return k == NONE ? found : NONE;
    }

    public int phase(int what) {
        if (!isWithin(what, 0, 1)) {
            return NO_SUCH;
        }
        int cellBits = HEAD_BITS + 8 * terms[TERM_LOAD];
        tallyPhases(cellBits);
        int best = 0;
        for (int i = 1; i < cellBits && i < tally.length; i++) {
            if (tally[i] > tally[best]) {
                best = i;
            }
        }
        if (tally[best] == 0) {
            return NONE;
        }
        return what == 0 ? best : tally[best];
    }

    public int tuned(int what) {
        if (!isWithin(what, TERM_ALPHA, TERM_MENDS)) {
            return NO_SUCH;
        }
        int best = NONE;
        int most = 0;
        for (int v = LEAST[what]; v <= GREATEST[what]; v++) {
            paper.mirror(receiver);
            paper.terms[what] = v;
            advance(paper, line.size, NONE);
            int worth = paper.counts[DELIVERED] - 2 * paper.counts[STRANGE];
            if (best == NONE || worth > most) {
                best = v;
                most = worth;
            }
        }
        return best;
    }

    public int starts(int what) {
        if (!isWithin(what, 0, 3)) {
            return NO_SUCH;
        }
        int sure = 0;
        int together = 0;
        int most = 0;
        int fell = 0;
        for (int i = 0; i < STARTS_OF; i++) {
            paper.mirror(receiver);
            paper.restart();
            int took = bitsTillSure(line.at + i);
            if (took != NONE) {
                sure++;
                together += took;
                most = Math.max(most, took);
            }
            // Ahead of SURE each check that doesn't look right leads from NEAR to HUNT.
            if (paper.counts[JUDGED] > paper.counts[LOOKED_RIGHT]) {
                fell++;
            }
        }
        switch (what) {
            case 0:
                return sure;
            case 1:
                return together;
            case 2:
                return most;
            default:
                return fell;
        }
    }

    // ---- checks

    public int check(int header) {
        return Checks.ofHeader(header);
    }

    public int syndrome(int header, int check) {
        return isByte(check) ? Checks.ofHeader(header) ^ check : CANNOT_BE;
    }

    public int single(int syndrome) {
        return isByte(syndrome) ? Checks.bitOf(syndrome) : CANNOT_BE;
    }

    public int latest(int what) {
        if (!isWithin(what, 0, 2)) {
            return NO_SUCH;
        }
        int most = NONE;
        int by = NONE;
        int many = 0;
        int end = Math.min(LATEST_OF, line.left());
        for (int n = 1; n <= end; n++) {
            paper.mirror(receiver);
            int took = bitsTillSure(line.at + n);
            if (took != NONE) {
                many++;
            }
            if (took > most) {
                most = took;
                by = n;
            }
        }
        if (what == 2) {
            return many;
        }
        return what == 0 ? most : by;
    }

    public int pairs(int syndrome, int k) {
        if (!isByte(syndrome) || k < NONE) {
            return CANNOT_BE;
        }
        return checks.pairOf(syndrome, k);
    }

    public int nearest(int syndrome, int k) {
        if (!isByte(syndrome) || k < NONE) {
            return CANNOT_BE;
        }
        int many = checks.fewestFor(syndrome);
        if (k == NONE) {
            return many;
        }
        return k < many ? checks.chosen(k) : NONE;
    }

    public int mending(int header, int check, int what) {
        if (!isWithin(what, 0, 2)) {
            return NO_SUCH;
        }
        if (!isByte(check)) {
            return CANNOT_BE;
        }
        int syndrome = Checks.ofHeader(header) ^ check;
        int mended = Checks.bitOf(syndrome);
        if (what == 1) {
            return Checks.mendedHeader(header, mended);
        }
        if (what == 2) {
            return Checks.mendedCheck(check, mended);
        }
        if (syndrome == 0) {
            return VERDICT_RIGHT;
        }
        return mended == NONE ? VERDICT_DROPPED : VERDICT_MENDED;
    }

    public long words(int w) {
        return isWithin(w, 0, HEAD_BITS) ? weights.wordsOf(w) : CANNOT_BE;
    }

    public long cases(int w, int what) {
        if (!isWithin(what, 0, 2)) {
            return NO_SUCH;
        }
        if (!isWithin(w, 0, HEAD_BITS)) {
            return CANNOT_BE;
        }
        long none = weights.wordsOf(w);
        long single = weights.oneBitOff(w);
        if (what == 2) {
            return Weights.rowsOf(w) - none - single;
        }
        return what == 0 ? none : single;
    }

    public long unseen(int w, int what) {
        if (!isWithin(what, 0, 4)) {
            return NO_SUCH;
        }
        if (!isWithin(w, 0, HEAD_BITS)) {
            return CANNOT_BE;
        }
        return Bits.ofRatio(weights.wordsOf(w), Weights.rowsOf(w), what);
    }

    public long odds(int which, int n, int w, int what) {
        if (!isWithin(which, LOST, GAINED) || !isWithin(what, 0, 4)) {
            return NO_SUCH;
        }
        if (!isWithin(n, 0, 7) || !isWithin(w, 0, 256)) {
            return CANNOT_BE;
        }
        return Bits.ofRatio(oddsOf(which, n, w), 1L << (8 * n), what);
    }

    public long mean(int which, int w, int part) {
        if (!isWithin(which, LOST, GAINED) || !isWithin(part, 0, 1)) {
            return NO_SUCH;
        }
        if (!isWithin(w, 0, 256)) {
            return CANNOT_BE;
        }
        int climbs = climbsOf(which, w);
        if (climbs == 0) {
            return NOT_NOW;
        }
        long bits = Bits.ofDouble(Ladder.meanClimb(rungsOf(which), climbs));
        return part == 0 ? Bits.upper(bits) : Bits.lower(bits);
    }

    public int half(int which, int w) {
        if (!isWithin(which, LOST, GAINED)) {
            return NO_SUCH;
        }
        if (!isWithin(w, 0, 256)) {
            return CANNOT_BE;
        }
        for (int n = 0; n <= 7; n++) {
            if (2L * oddsOf(which, n, w) >= 1L << (8 * n)) {
                return n;
            }
        }
        return NONE;
    }

    public int told(int what) {
        if (isWithin(what, 10, 9 + TERMS)) {
            return terms[what - 10];
        }
        switch (what) {
            case 0:
                return line.size;
            case 1:
                return line.at;
            case 2:
                return sender.count;
            default:
                return NONE;
        }
    }

    // ---- what several calls share

    private static boolean isWithin(int v, int least, int greatest) {
        return v >= least && v <= greatest;
    }

    private static boolean isByte(int v) {
        return v >= 0 && v <= 255;
    }

    private boolean hasRoomForCells(int n) {
        int cellBits = HEAD_BITS + 8 * terms[TERM_LOAD];
        return sender.count + n <= CELLS_SENT && line.hasRoomFor(n * cellBits);
    }

    /** Loads of several lengths must never meet in what is kept, so the length is held. */
    private boolean isLoadHeld() {
        return sender.count > 0 || receiver.state != HUNT || receiver.counts[DELIVERED] > 0;
    }

    /** Where the line is behind n more bits, or at its end. */
    private int endOf(int n) {
        return Math.min(line.size, line.at + n);
    }

    private void advance(Receiver who, int end, int flipped) {
        for (int place = line.at; place < end; place++) {
            int bit = line.bitAt(place);
            who.receive(place == flipped ? 1 - bit : bit, place + 1);
        }
    }

    private int foundOf(int k) {
        return sender.firstLike(log.cells.entry(k, 0), log.loads, log.loadStart(k), terms[TERM_LOAD]);
    }

    /** How many bits the receiver on paper takes from there on till it becomes SURE. */
    private int bitsTillSure(int from) {
        int before = paper.counts[BECAME_SURE];
        for (int place = from; place < line.size; place++) {
            paper.receive(line.bitAt(place), place + 1);
            if (paper.counts[BECAME_SURE] > before) {
                return place + 1 - from;
            }
        }
        return NONE;
    }

    private void tallyPhases(int cellBits) {
        Arrays.fill(tally, 0);
        scan.clear();
        int phase = 0;
        for (int place = line.at; place < line.size; place++) {
            scan.push(line.bitAt(place));
            if (scan.isFull()) {
                if (scan.looksRight() && phase < tally.length) {
                    tally[phase]++;
                }
                phase = phase + 1 < cellBits ? phase + 1 : 0;
            }
        }
    }

    private long oddsOf(int which, int n, int w) {
        // From NEAR on the first rung, that of HUNT, is climbed already.
        int start = which == LOST ? 0 : 1;
        return ladder.waysUp(rungsOf(which), start, n, climbsOf(which, w));
    }

    private int rungsOf(int which) {
        return which == LOST ? terms[TERM_ALPHA] : terms[TERM_DELTA] + 1;
    }

    private static int climbsOf(int which, int w) {
        return which == LOST ? 256 - w : w;
    }

    /** The bits that were put on the line, and how many of them were taken. */
    private static final class Line {
        private final byte[] bits = new byte[LINE_BITS];
        int size;
        int at;

        Line() {
            size = 0;
            at = 0;
        }

        boolean has(int i) {
            return i >= 0 && i < size && i < bits.length;
        }

        int left() {
            return size - at;
        }

        boolean hasRoomFor(int n) {
            return n >= 0 && n <= LINE_BITS - size;
        }

        int bitAt(int i) {
            return i >= 0 && i < bits.length ? bits[i] : 0;
        }

        void toggle(int i) {
            if (has(i)) {
                bits[i] ^= 1;
            }
        }

        void append(int n, int v) {
            if (hasRoomFor(n)) {
                write(size, n, v);
                size += n;
            }
        }

        void insert(int i, int n, int v) {
            if (i >= 0 && i <= size && hasRoomFor(n)) {
                System.arraycopy(bits, i, bits, i + n, size - i);
                write(i, n, v);
                size += n;
            }
        }

        void cut(int i, int n) {
            if (has(i) && n >= 0 && n <= size - i) {
                System.arraycopy(bits, i + n, bits, i, size - i - n);
                size -= n;
            }
        }

        void clear() {
            size = 0;
            at = 0;
        }

        private void write(int from, int n, int v) {
            for (int j = 0; j < n; j++) {
                int i = from + j;
                if (i >= 0 && i < bits.length) {
                    bits[i] = (byte) ((v >>> (n - 1 - j)) & 1);
                }
            }
        }
    }

    /** The last 40 bits of those that were pushed, with their syndrome kept up bit by bit. */
    private static final class Window {
        private static final long MASK = (1L << HEAD_BITS) - 1L;
        /** What x to the 40th leaves: a bit's share as it falls out of the window. */
        private static final int SHARE_OF_LEAVING = 98;
        private long last;
        private int remainder;
        int taken;

        Window() {
            last = 0L;
            remainder = 0;
            taken = 0;
        }

        void clear() {
            last = 0L;
            remainder = 0;
            taken = 0;
        }

        void mirror(Window from) {
            last = from.last;
            remainder = from.remainder;
            taken = from.taken;
        }

        void push(int bit) {
            int share = (last >>> (HEAD_BITS - 1)) == 0L ? 0 : SHARE_OF_LEAVING;
            last = ((last << 1) | bit) & MASK;
            remainder = Checks.timesX(remainder) ^ bit ^ share;
            taken++;
        }

        boolean isFull() {
            return taken >= HEAD_BITS;
        }

        boolean looksRight() {
            return remainder == Checks.ALIKE && taken >= HEAD_BITS;
        }

        int syndromeNow() {
            return remainder ^ Checks.ALIKE;
        }

        int headerNow() {
            return (int) (last >>> 8);
        }
    }

    /** The 43 bits behind which a load bit is scrambled or descrambled. */
    private static final class History {
        private static final long MASK = (1L << STAGES) - 1L;
        private long past;

        History() {
            past = 0L;
        }

        void clear() {
            past = 0L;
        }

        void mirror(History from) {
            past = from.past;
        }

        void set(int a, int b) {
            past = ((b & 0xFFFFFFFFL) << 11) | (a & 2047);
        }

        int oldest() {
            return (int) (past >>> (STAGES - 1));
        }

        int bitAgo(int i) {
            return (int) (past >>> i) & 1;
        }

        void push(int bit) {
            past = ((past << 1) | bit) & MASK;
        }

        int ones() {
            return Long.bitCount(past);
        }
    }

    /** Puts cells on the line and knows what it sent. */
    private static final class Sender {
        final History history = new History();
        private final int[] headers = new int[CELLS_SENT];
        private final byte[] loads = new byte[CELLS_SENT * LOAD_BYTES];
        int count;

        Sender() {
            count = 0;
        }

        void restart() {
            count = 0;
            history.clear();
        }

        static int following(int s) {
            return (s * 1103 + 12345) % 1000003;
        }

        void fillBySeed(int seed, int bytes) {
            int from = count * LOAD_BYTES;
            int s = seed;
            for (int i = 0; i < bytes && from + i < loads.length; i++) {
                s = following(s);
                loads[from + i] = (byte) s;
            }
        }

        void fillIdle(int bytes) {
            int from = count * LOAD_BYTES;
            for (int i = 0; i < bytes && from + i < loads.length; i++) {
                loads[from + i] = IDLE_BYTE;
            }
        }

        /** Sends the cell whose load has been filled in. */
        void putCell(Line line, int header, int bytes) {
            if (count >= headers.length) {
                return;
            }
            int from = count * LOAD_BYTES;
            line.append(32, header);
            line.append(8, Checks.ofHeader(header));
            for (int i = 0; i < bytes && from + i < loads.length; i++) {
                line.append(8, scrambled(loads[from + i]));
            }
            headers[count] = header;
            count++;
        }

        private int scrambled(int plain) {
            int out = 0;
            for (int i = 7; i >= 0; i--) {
                int bit = ((plain >>> i) & 1) ^ history.oldest();
                history.push(bit);
                out = (out << 1) | bit;
            }
            return out;
        }

        int firstLike(int header, byte[] load, int start, int bytes) {
            for (int number = 0; number < count && number < headers.length; number++) {
                if (headers[number] == header && isLoadLike(number, load, start, bytes)) {
                    return number;
                }
            }
            return NONE;
        }

        private boolean isLoadLike(int number, byte[] load, int start, int bytes) {
            int from = number * LOAD_BYTES;
            if (start < 0 || bytes > load.length - start || bytes > loads.length - from) {
                return false;
            }
            for (int i = 0; i < bytes; i++) {
                if (loads[from + i] != load[start + i]) {
                    return false;
                }
            }
            return true;
        }
    }

    /** Rows of three numbers of which the latest are kept, numbered from the first ever on. */
    private static final class Ring {
        private final int kept;
        private final int[] entries;
        int total;
        /** The slot of the number that comes next. */
        int next;

        Ring(int kept) {
            this.kept = Math.max(1, kept);
            entries = new int[3 * this.kept];
            total = 0;
            next = 0;
        }

        void clear() {
            total = 0;
            next = 0;
        }

        int firstKept() {
            return Math.max(0, total - kept);
        }

        boolean keeps(int k) {
            return k >= firstKept() && k < total;
        }

        int slotOf(int k) {
            return k < 0 || kept < 1 ? 0 : k % kept;
        }

        int entry(int k, int column) {
            int i = 3 * slotOf(k) + column;
            return i >= 0 && i < entries.length ? entries[i] : 0;
        }

        void add(int a, int b, int c) {
            int i = 3 * next;
            if (i >= 0 && i + 2 < entries.length) {
                entries[i] = a;
                entries[i + 1] = b;
                entries[i + 2] = c;
            }
            next = next + 1 < kept ? next + 1 : 0;
            total++;
        }
    }

    /** What the receiver keeps of what it did. */
    private static final class Log {
        private static final int CELLS = 12;
        /** Header, whether mended, place. */
        final Ring cells = new Ring(CELLS);
        /** Bits taken, from, to. */
        final Ring turns = new Ring(24);
        /** Place, syndrome, verdict. */
        final Ring checks = new Ring(32);
        final byte[] loads = new byte[CELLS * LOAD_BYTES];

        Log() {
        }

        void clear() {
            cells.clear();
            turns.clear();
            checks.clear();
        }

        int loadStart(int k) {
            return LOAD_BYTES * cells.slotOf(k);
        }

        int loadByte(int k, int i) {
            int at = loadStart(k) + i;
            return at >= 0 && at < loads.length ? loads[at] & 255 : 0;
        }

        void addCell(int header, int mended, int place, byte[] load) {
            int start = LOAD_BYTES * cells.next;
            if (start >= 0 && load.length <= loads.length - start) {
                System.arraycopy(load, 0, loads, start, load.length);
            }
            cells.add(header, mended, place);
        }
    }

    /** Takes bits one by one; on paper it has no log. */
    private static final class Receiver {
        final int[] terms;
        private final Sender sender;
        private final Log log;
        final int[] counts = new int[COUNTS];
        final Window window = new Window();
        final History history = new History();
        private final byte[] load = new byte[LOAD_BYTES];
        int state;
        int right;
        int wrong;
        int mode;
        boolean good;
        boolean alarm;
        int still;
        /** Bits taken in this HUNT. */
        private int hunted;
        /** Bits taken of the load, and then of the header and check, that come in turn. */
        private int spot;
        private int header;
        private int mended;
        private int place;

        Receiver(int[] terms, Sender sender, Log log) {
            this.terms = terms;
            this.sender = sender;
            this.log = log;
        }

        void restart() {
            Arrays.fill(counts, 0);
            window.clear();
            history.clear();
            state = HUNT;
            right = 0;
            wrong = 0;
            mode = 0;
            good = false;
            alarm = false;
            still = 0;
            hunted = 0;
            spot = 0;
        }

        /** Becomes as another one is, terms and all, but for the log. */
        void mirror(Receiver from) {
            System.arraycopy(from.terms, 0, terms, 0, TERMS);
            System.arraycopy(from.counts, 0, counts, 0, COUNTS);
            System.arraycopy(from.load, 0, load, 0, LOAD_BYTES);
            window.mirror(from.window);
            history.mirror(from.history);
            state = from.state;
            right = from.right;
            wrong = from.wrong;
            mode = from.mode;
            good = from.good;
            alarm = from.alarm;
            still = from.still;
            hunted = from.hunted;
            spot = from.spot;
            header = from.header;
            mended = from.mended;
            place = from.place;
        }

        private int loadBits() {
            return 8 * terms[TERM_LOAD];
        }

        int loadTaken() {
            return spot < loadBits() ? spot : 0;
        }

        int headTaken() {
            return spot < loadBits() ? 0 : spot - loadBits();
        }

        /** What the next bit is descrambled to; NONE if it isn't taken as load. */
        int plainOf(int bit) {
            return state != HUNT && spot < loadBits() ? bit ^ history.oldest() : NONE;
        }

        /** Takes a bit, behind which at bits of the line have been taken. */
        void receive(int bit, int at) {
            int before = state;
            window.push(bit);
            if (before == HUNT) {
                counts[TAKEN_IN_HUNT]++;
                hunt(at);
            } else {
                counts[before == NEAR ? TAKEN_IN_NEAR : TAKEN_IN_SURE]++;
                if (spot < loadBits()) {
                    carry(bit);
                } else {
                    spot++;
                    if (spot - loadBits() == HEAD_BITS) {
                        judge(at);
                    }
                }
            }
            watch(before == SURE);
        }

        private void hunt(int at) {
            hunted++;
            int step = terms[TERM_STEP];
            if (window.looksRight() && step > 0 && hunted % step == 0) {
                right = 0;
                become(NEAR, at);
            }
        }

        private void carry(int bit) {
            int plain = bit ^ history.oldest();
            history.push(bit);
            int i = spot >>> 3;
            if (i < load.length) {
                load[i] = (byte) ((load[i] << 1) | plain);
            }
            spot++;
            if (spot == loadBits()) {
                endLoad();
            }
        }

        private void endLoad() {
            if (!good) {
                return;
            }
            good = false;
            if (terms[TERM_IDLES] == 1 && header == IDLE_HEADER) {
                counts[IDLE]++;
                return;
            }
            counts[DELIVERED]++;
            if (sender.firstLike(header, load, 0, terms[TERM_LOAD]) == NONE) {
                counts[STRANGE]++;
            }
            if (log != null) {
                log.addCell(header, mended, place, load);
            }
        }

        private void judge(int at) {
            spot = 0;
            int syndrome = window.syndromeNow();
            header = window.headerNow();
            mended = 0;
            place = at - HEAD_BITS;
            int verdict = syndrome == 0 ? acceptRight(at) : faceWrong(syndrome, at);
            counts[JUDGED]++;
            if (log != null) {
                log.checks.add(place, syndrome, verdict);
            }
        }

        private int acceptRight(int at) {
            counts[LOOKED_RIGHT]++;
            if (state == NEAR) {
                right++;
                if (right >= terms[TERM_DELTA]) {
                    become(SURE, at);
                }
            }
            if (state == SURE) {
                wrong = 0;
                mode = 1;
                good = true;
            }
            return VERDICT_RIGHT;
        }

        private int faceWrong(int syndrome, int at) {
            if (state == SURE) {
                wrong++;
            }
            if (state == NEAR || wrong >= terms[TERM_ALPHA]) {
                become(HUNT, at);
                return VERDICT_HUNT;
            }
            boolean mends = mode == 1 && terms[TERM_MENDS] == 1;
            int bit = mends ? Checks.bitOf(syndrome) : NONE;
            mode = 0;
            if (bit == NONE) {
                counts[DROPPED]++;
                return VERDICT_DROPPED;
            }
            header = Checks.mendedHeader(header, bit);
            mended = 1;
            counts[MENDED]++;
            good = true;
            return VERDICT_MENDED;
        }

        private void become(int next, int at) {
            if (log != null) {
                log.turns.add(at, state, next);
            }
            counts[TURNS]++;
            if (next == SURE) {
                counts[BECAME_SURE]++;
            }
            if (state == SURE) {
                counts[LEFT_SURE]++;
            }
            state = next;
            hunted = 0;
            spot = 0;
            good = false;
        }

        private void watch(boolean wasSure) {
            boolean isSure = state == SURE;
            still = isSure == wasSure ? still + 1 : 1;
            if (still >= terms[TERM_PATIENCE]) {
                if (!isSure && !alarm) {
                    counts[ALARMS]++;
                }
                alarm = !isSure;
            }
        }
    }

    /** The eight-bit check, and which bits of forty make a syndrome. */
    private static final class Checks {
        /** x to the 8th, x squared, x and 1. */
        private static final int DIVISOR = 263;
        /** The row that a check is told unlike of. */
        static final int ALIKE = 85;
        /** The eight bits of the check alone make every syndrome; four of all are enough. */
        private static final int MOST = 8;
        private final int[] shares = new int[HEAD_BITS];
        private final int[] row = new int[MOST];

        Checks() {
            int share = 1;
            for (int i = HEAD_BITS - 1; i >= 0; i--) {
                shares[i] = share;
                share = timesX(share);
            }
        }

        static int timesX(int remainder) {
            int doubled = remainder << 1;
            return doubled > 255 ? doubled ^ DIVISOR : doubled;
        }

        static int ofHeader(int header) {
            int remainder = 0;
            for (int i = 31; i >= 0; i--) {
                remainder = timesX(remainder) ^ ((header >>> i) & 1);
            }
            for (int i = 0; i < 8; i++) {
                remainder = timesX(remainder);
            }
            return remainder ^ ALIKE;
        }

        static int bitOf(int syndrome) {
            int share = 1;
            for (int i = HEAD_BITS - 1; i >= 0; i--) {
                if (share == syndrome) {
                    return i;
                }
                share = timesX(share);
            }
            return NONE;
        }

        static int mendedHeader(int header, int bit) {
            return bit >= 0 && bit < 32 ? header ^ (1 << (31 - bit)) : header;
        }

        static int mendedCheck(int check, int bit) {
            return bit >= 32 && bit < HEAD_BITS ? check ^ (1 << (HEAD_BITS - 1 - bit)) : check;
        }

        int shareOf(int bit) {
            return bit >= 0 && bit < shares.length ? shares[bit] : 0;
        }

        int pairOf(int syndrome, int k) {
            int found = 0;
            for (int a = 0; a < HEAD_BITS; a++) {
                for (int b = a + 1; b < HEAD_BITS; b++) {
                    if ((shareOf(a) ^ shareOf(b)) == syndrome) {
                        if (found == k) {
                            return 100 * a + b;
                        }
                        found++;
                    }
                }
            }
            return k == NONE ? found : NONE;
        }

        /** Leaves the first row of the fewest bits behind, for chosen(). */
        int fewestFor(int syndrome) {
            int many = 0;
            while (many < MOST && !canChoose(shares, row, syndrome, 0, many, 0)) {
                many++;
            }
            return many;
        }

        int chosen(int k) {
            return k >= 0 && k < row.length ? row[k] : NONE;
        }

        private static boolean canChoose(int[] shares, int[] row, int syndrome, int from, int many, int depth) {
            if (depth < 0 || depth >= many || depth >= row.length) {
                return syndrome == 0;
            }
            for (int bit = Math.max(0, from); bit < shares.length; bit++) {
                row[depth] = bit;
                if (canChoose(shares, row, syndrome ^ shares[bit], bit + 1, many, depth + 1)) {
                    return true;
                }
            }
            return false;
        }
    }

    /** How many rows of forty bits, by their weight, have the syndrome 0. */
    private static final class Weights {
        private final long[] words = new long[HEAD_BITS + 1];
        private final long[] signs = new long[HEAD_BITS + 1];
        private final int[] masks = new int[HEAD_BITS + 1];
        private boolean counted;

        Weights() {
            counted = false;
        }

        static long rowsOf(int w) {
            long rows = 1L;
            for (int i = 0; i < w; i++) {
                rows = rows * (HEAD_BITS - i) / (i + 1);
            }
            return rows;
        }

        long wordsOf(int w) {
            if (!counted) {
                countWords();
                counted = true;
            }
            return w >= 0 && w < words.length ? words[w] : 0L;
        }

        /**
         * Rows with the syndrome of one bit alone: no two bits share a syndrome, so
         * each such row is one word with one of its bits flipped, and only one is.
         */
        long oneBitOff(int w) {
            return (HEAD_BITS + 1 - w) * wordsOf(w - 1) + (w + 1) * wordsOf(w + 1);
        }

        /**
         * A row has the syndrome 0 if each of the 256 masks over the syndrome is even
         * on it; for other rows half of them are odd. So the signs of all masks, added
         * up over the rows of a weight, are 256 times its words, and the signs of a
         * mask depend only on how many of the forty bits it sees.
         */
        private void countWords() {
            countMasks();
            for (int seen = 0; seen <= HEAD_BITS; seen++) {
                if (masks[seen] > 0) {
                    addUpSigns(seen);
                    for (int w = 0; w <= HEAD_BITS; w++) {
                        words[w] += masks[seen] * signs[w];
                    }
                }
            }
            for (int w = 0; w <= HEAD_BITS; w++) {
                words[w] /= 256L;
            }
        }

        private void countMasks() {
            for (int mask = 0; mask < 256; mask++) {
                int seen = 0;
                int share = 1;
                for (int i = 0; i < HEAD_BITS; i++) {
                    seen += Integer.bitCount(share & mask) & 1;
                    share = Checks.timesX(share);
                }
                if (seen < masks.length) {
                    masks[seen]++;
                }
            }
        }

        /** A bit that the mask sees counts less if it is 1, one that it doesn't see counts more. */
        private void addUpSigns(int seen) {
            Arrays.fill(signs, 0L);
            signs[0] = 1L;
            for (int i = 0; i < HEAD_BITS; i++) {
                for (int w = i + 1; w > 0; w--) {
                    signs[w] += i < seen ? -signs[w - 1] : signs[w - 1];
                }
            }
        }
    }

    /**
     * A ladder whose rungs are climbed one a cell, or fallen from to its foot: wrong
     * checks lead up to HUNT, right ones from HUNT through NEAR up to SURE.
     */
    private static final class Ladder {
        private final long[] ways = new long[17];

        Ladder() {
        }

        /** Of 256 to the n rows of cells: how many lead above the last rung. */
        long waysUp(int rungs, int start, int n, int climbs) {
            if (rungs < 1 || rungs > ways.length || start < 0 || start >= rungs) {
                return 0L;
            }
            Arrays.fill(ways, 0L);
            ways[start] = 1L;
            long up = 0L;
            for (int cell = 0; cell < n; cell++) {
                up = up * 256L + ways[rungs - 1] * climbs;
                long all = ways[0];
                for (int i = rungs - 1; i > 0; i--) {
                    all += ways[i];
                    ways[i] = ways[i - 1] * climbs;
                }
                ways[0] = all * (256 - climbs);
            }
            return up;
        }

        static double meanClimb(int rungs, int climbs) {
            double chance = climbs / 256.0;
            double mean = 0.0;
            if (chance > 0.0) {
                for (int i = 0; i < rungs; i++) {
                    mean = (mean + 1.0) / chance;
                }
            }
            return mean;
        }
    }

    /** The bits of floating numbers that are 0 or above, by arithmetic alone. */
    private static final class Bits {
        private Bits() {
        }

        static long ofRatio(long n, long d, int what) {
            if (what == 0) {
                return n;
            }
            if (what == 1) {
                return d;
            }
            double ratio = d > 0L ? (double) n / (double) d : 0.0;
            if (what == 2) {
                return upper(ofDouble(ratio));
            }
            return what == 3 ? lower(ofDouble(ratio)) : ofFloat((float) ratio);
        }

        static int upper(long bits) {
            return (int) (bits >>> 32);
        }

        static int lower(long bits) {
            return (int) bits;
        }

        /** Halving and doubling are exact here, so nothing of the fraction is lost. */
        static long ofDouble(double value) {
            if (value <= 0.0) {
                return 0L;
            }
            double part = value;
            long exponent = 1023L;
            for (int i = 0; i < 1023 && part >= 2.0; i++) {
                part /= 2.0;
                exponent++;
            }
            for (int i = 0; i < 1022 && part < 1.0; i++) {
                part *= 2.0;
                exponent--;
            }
            return (exponent << 52) | (long) ((part - 1.0) * 4503599627370496.0);
        }

        /** A float is a double whose fraction ends 29 bits sooner, its exponent told from 127 on. */
        static int ofFloat(float value) {
            long bits = ofDouble(value);
            if (bits == 0L) {
                return 0;
            }
            int exponent = (int) (bits >>> 52) - 1023 + 127;
            return (exponent << 23) | ((int) (bits >>> 29) & 0x7FFFFF);
        }
    }
}
