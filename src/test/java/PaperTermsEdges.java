import java.util.List;

/** The edges of part 3 of the terms: on paper, odds and words, numbers told by bits, codes. */
final class PaperTermsEdges extends Edges {
    /** At first, in HUNT, NEAR and SURE, in the midst of a load and of a header, at the end of the line. */
    private static final List<Run> MOMENTS = List.of(
        x -> { },
        x -> {
            rested(x, 5);
            x.terms(6, 3);
            x.take(17);
        },
        x -> {
            rested(x, 5);
            x.terms(2, 3);
            x.take(72 + 20);
        },
        x -> {
            sending(x, 6);
            x.take(72 * 2 + 60);
        },
        Edges::busy,
        x -> {
            busy(x);
            x.take(9600);
        });

    @Says("ON PAPER THE RECEIVER takes the rest of THE LINE, or some of it, as it would.")
    void onPaperNothingChanges() {
        for (Run moment : MOMENTS) {
            for (int n : new int[] {0, 1, 100, 9600}) {
                unchanged(moment, x -> x.look(n));
            }
            for (int what = 0; what < 6; what++) {
                int i = what;
                unchanged(moment, x -> x.until(i % 3));
                unchanged(moment, x -> x.would(x.told(1) + 20, i));
                unchanged(moment, x -> x.starts(i % 4));
                unchanged(moment, x -> x.tuned(1 + i % 3));
                unchanged(moment, x -> x.latest(i % 3));
                unchanged(moment, x -> x.phase(i % 2));
                unchanged(moment, x -> x.spread(x.told(1) + 20, i - 1));
                unchanged(moment, x -> x.rights(0, 2000, i - 1));
            }
            unchanged(moment, x -> x.worst());
            unchanged(moment, x -> x.regained(1));
            unchanged(moment, x -> x.regained(100));
        }
    }

    @Says("ODDS of n CELLS (0 to 7), each CHECK looking right by w (0 to 256) of 256 by itself, others not (nothing is MENDED):")
    void oddsOfFewestAndMost() {
        Finder x = new Finder();
        x.terms(1, 1);
        x.terms(2, 1);
        for (int which = 0; which < 2; which++) {
            due(x.odds(which, -1, 9, 0), CANNOT_BE);
            due(x.odds(which, 8, 9, 0), CANNOT_BE);
            due(x.odds(which, 3, -1, 0), CANNOT_BE);
            due(x.odds(which, 3, 257, 0), CANNOT_BE);
            for (int w : new int[] {0, 1, 128, 255, 256}) {
                due(x.odds(which, 0, w, 0), 0);
                due(x.odds(which, 0, w, 1), 1);
                due(x.odds(which, 1, w, 0), which == 0 ? 256 - w : w);
                due(x.odds(which, 7, w, 1), 1L << 56);
            }
            due(x.odds(which, 7, which == 0 ? 0 : 256, 0), 1L << 56);
            due(x.odds(which, 7, which == 0 ? 256 : 0, 0), 0);
        }
        // nothing is MENDED, whatever MENDS is
        long before = x.odds(0, 7, 77, 0);
        x.terms(3, 0);
        due(x.odds(0, 7, 77, 0), before);
    }

    private static long power(long base, int n) {
        long v = 1;
        for (int i = 0; i < n; i++) {
            v *= base;
        }
        return v;
    }

    @Says("0 LOST: from SURE on, WRONG 0, it comes to HUNT in these;")
    void lostByAlpha() {
        for (int w : new int[] {0, 1, 100, 255, 256}) {
            Finder x = new Finder();
            // ALPHA 7 at first: all seven must look wrong
            due(x.odds(0, 6, w, 0), 0);
            due(x.odds(0, 7, w, 0), power(256 - w, 7));
            x.terms(1, 8);
            due(x.odds(0, 7, w, 0), 0);
            x.terms(1, 15);
            due(x.odds(0, 7, w, 0), 0);
            x.terms(1, 6);
            due(x.odds(0, 7, w, 0), power(256 - w, 6) * 256 + w * power(256 - w, 6));
            x.terms(1, 1);
            for (int n = 0; n <= 7; n++) {
                due(x.odds(0, n, w, 0), power(256, n) - power(w, n));
            }
        }
        // whatever STATE and WRONG are
        Finder y = behind(Edges::busy);
        due(y.odds(0, 3, 9, 0), power(247, 3));
    }

    @Says("1 GAINED: from NEAR on, RIGHT 0, it comes to SURE in these (a wrong one: HUNT, there the next one that looks right: "
        + "NEAR, RIGHT 0): N of 256 to the n.")
    void gainedByDelta() {
        for (long w : new long[] {0, 1, 100, 255, 256}) {
            int by = (int) w;
            long q = 256 - w;
            Finder x = new Finder();
            // DELTA 6 at first
            due(x.odds(1, 5, by, 0), 0);
            due(x.odds(1, 6, by, 0), power(w, 6));
            // in seven: the first six, whatever comes then; a wrong one first leaves too few
            due(x.odds(1, 7, by, 0), power(w, 6) * 256);
            x.terms(2, 7);
            due(x.odds(1, 7, by, 0), power(w, 7));
            x.terms(2, 8);
            due(x.odds(1, 7, by, 0), 0);
            x.terms(2, 15);
            due(x.odds(1, 7, by, 0), 0);
            x.terms(2, 1);
            long three = w * 65536 + q * w * w;
            due(x.odds(1, 1, by, 0), w);
            due(x.odds(1, 2, by, 0), w * 256);
            due(x.odds(1, 3, by, 0), three);
            due(x.odds(1, 4, by, 0), three * 256 + q * q * w * w);
            // right, wrong, right (NEAR again), right, right: RIGHT was 0 again
            x.terms(2, 2);
            long four = w * w * 65536 + q * w * w * w;
            due(x.odds(1, 2, by, 0), w * w);
            due(x.odds(1, 3, by, 0), w * w * 256);
            due(x.odds(1, 4, by, 0), four);
            due(x.odds(1, 5, by, 0), four * 256 + q * q * w * w * w + w * q * w * w * w);
        }
    }

    @Says("WORDS of weight w (0 to 40): how many rows of 40 bits of which w are 1 have the SYNDROME 0, if CHECK were told "
        + "without 85.")
    void wordsOfLeastAndGreatestWeight() {
        Finder x = new Finder();
        due(x.words(-1), CANNOT_BE);
        due(x.words(41), CANNOT_BE);
        due(x.words(0), 1);
        due(x.words(1), 0);
        due(x.words(2), 0);
        due(x.words(3), 0);
        due(x.words(4), 727);
        due(x.words(40), 0);
        // no word of odd weight; one word for each header
        long all = 0;
        for (int w = 0; w <= 40; w++) {
            long words = x.words(w);
            due(w % 2 == 1 ? words : 0, 0);
            all += words;
        }
        due(all, 1L << 32);
        // weight 38: all ones but for two, found by the pairs that make the SYNDROME of all ones
        int ones = NaiveFinder.restOf((1L << 40) - 1);
        due(x.words(38), x.pairs(ones, NONE));
        due(x.words(39), x.single(ones) == NONE ? 0 : 1);
    }

    @Says("UNSEEN of w: WORDS by how many rows of weight w there are.")
    void unseenOfLeastAndGreatestWeight() {
        Finder x = new Finder();
        long rows = 1;
        for (int w = 0; w <= 40; w++) {
            due(x.unseen(w, 0), x.words(w));
            due(x.unseen(w, 1), rows);
            rows = rows * (40 - w) / (w + 1);
        }
        due(x.unseen(-1, 0), CANNOT_BE);
        due(x.unseen(41, 0), CANNOT_BE);
    }

    private void mean(Finder x, int which, int w, double want) {
        long bits = Double.doubleToLongBits(want);
        due(x.mean(which, w, 0), (int) (bits >> 32));
        due(x.mean(which, w, 1), (int) bits);
    }

    @Says("MEAN (by doubles, in this order): m is 0 at first; LOST: ALPHA times m becomes (m and 1) by q, q being (256 less w) "
        + "by 256; GAINED (from HUNT on): DELTA and 1 times m becomes (m and 1) by p, p being w by 256.")
    void meanOfFewestAndMost() {
        for (int term : new int[] {1, 2, 14, 15}) {
            Finder x = new Finder();
            x.terms(1, term);
            x.terms(2, term);
            // by q 1 or p 1 one cell more each time
            mean(x, 0, 0, term);
            mean(x, 1, 256, term + 1);
            for (int w : new int[] {1, 3, 128, 255}) {
                double m = 0;
                for (int i = 0; i < term; i++) {
                    m = (m + 1) / ((256 - w) / 256.0);
                }
                mean(x, 0, w, m);
                m = 0;
                for (int i = 0; i < term + 1; i++) {
                    m = (m + 1) / (w / 256.0);
                }
                mean(x, 1, w, m);
            }
        }
        Finder y = new Finder();
        y.terms(1, 1);
        y.terms(2, 1);
        mean(y, 0, 255, 256);
        mean(y, 0, 128, 2);
        mean(y, 1, 1, 256 * 257);
        mean(y, 1, 128, 6);
    }

    @Says("A number told by bits: of the double nearest to N by D (both as double, divided), or of that as a float: what 0 N, 1 D "
        + "(as they are, not lowered), 2, 3 upper, lower half of the double's bits (each as an int), 4 the float's bits (as an int).")
    void numbersByBits() {
        Finder x = new Finder();
        x.terms(1, 1);
        // nothing at all
        due(x.odds(0, 7, 256, 0), 0);
        due(x.odds(0, 7, 256, 2), 0);
        due(x.odds(0, 7, 256, 3), 0);
        due(x.odds(0, 7, 256, 4), 0);
        // one
        due(x.odds(0, 7, 0, 2), 0x3FF00000);
        due(x.odds(0, 7, 0, 3), 0);
        due(x.odds(0, 7, 0, 4), 0x3F800000);
        // 49,152 of 65,536 is told as it is, though it is three of four
        due(x.odds(0, 2, 128, 0), 49152);
        due(x.odds(0, 2, 128, 1), 65536);
        due(x.odds(0, 2, 128, 2), 0x3FE80000);
        due(x.odds(0, 2, 128, 4), 0x3F400000);
        // the least that can be: one of 2 to the 56th
        x.terms(1, 7);
        due(x.odds(0, 7, 255, 0), 1);
        due(x.odds(0, 7, 255, 2), (1023 - 56) << 20);
        due(x.odds(0, 7, 255, 3), 0);
        due(x.odds(0, 7, 255, 4), (127 - 56) << 23);
        // a lower half whose first bit is 1 is an int below 0
        due(x.unseen(6, 3), -851312965);
        due(x.unseen(6, -1), NO_SUCH);
        due(x.unseen(6, 5), NO_SUCH);
        due(x.odds(0, 1, 1, -1), NO_SUCH);
        due(x.odds(0, 1, 1, 5), NO_SUCH);
    }

    @Says("A number told by bits: of the double nearest to N by D (both as double, divided), or of that as a float: what 0 N, 1 D "
        + "(as they are, not lowered), 2, 3 upper, lower half of the double's bits (each as an int), 4 the float's bits (as an int).")
    void numbersByBitsAsJavaTellsThem() {
        // N beyond 2 to the 53rd is no double itself: both become doubles first
        for (int w = 0; w <= 256; w++) {
            Finder x = new Finder();
            x.terms(1, 1 + w % 7);
            x.terms(2, 1 + w % 5);
            for (int i = 0; i < 16; i++) {
                long n = x.odds(i / 8, i % 8, w, 0);
                long d = x.odds(i / 8, i % 8, w, 1);
                double ratio = (double) n / (double) d;
                long bits = Double.doubleToLongBits(ratio);
                due(x.odds(i / 8, i % 8, w, 2), (int) (bits >> 32));
                due(x.odds(i / 8, i % 8, w, 3), (int) bits);
                due(x.odds(i / 8, i % 8, w, 4), Float.floatToIntBits((float) ratio));
            }
        }
        Finder y = new Finder();
        for (int w = 0; w <= 40; w++) {
            double ratio = (double) y.unseen(w, 0) / (double) y.unseen(w, 1);
            long bits = Double.doubleToLongBits(ratio);
            due(y.unseen(w, 2), (int) (bits >> 32));
            due(y.unseen(w, 3), (int) bits);
            due(y.unseen(w, 4), Float.floatToIntBits((float) ratio));
        }
    }

    @Says("Refused calls answer by a code and change nothing: -2 there is none such; -3 a number can't be; -4 too many; -5 it "
        + "can't be now.")
    void refusedCallsChangeNothing() {
        for (Run moment : MOMENTS) {
            refused(CANNOT_BE, moment, x -> x.bits(0, -1));
            refused(CANNOT_BE, moment, x -> x.send(1, -1));
            refused(CANNOT_BE, moment, x -> x.rest(0));
            refused(NO_SUCH, moment, x -> x.flip(-1));
            refused(NO_SUCH, moment, x -> x.drop(9600, 1));
            refused(NO_SUCH, moment, x -> x.slip(-1, 1, 1));
            refused(NO_SUCH, moment, x -> x.disturb(-1, 1, 1, 1));
            refused(NO_SUCH, moment, x -> x.terms(7, 1));
            refused(CANNOT_BE, moment, x -> x.terms(1, 0));
            refused(CANNOT_BE, moment, x -> x.take(0));
            refused(CANNOT_BE, moment, x -> x.take(9601));
            refused(NO_SUCH, moment, x -> x.stage(2, 0));
            refused(CANNOT_BE, moment, x -> x.stages(2048, -1));
            refused(NO_SUCH, moment, x -> x.state(11));
            refused(NO_SUCH, moment, x -> x.count(14));
            refused(NO_SUCH, moment, x -> x.delivered(99, 0));
            refused(NO_SUCH, moment, x -> x.load(-1, 0));
            refused(NO_SUCH, moment, x -> x.field(0, 5));
            refused(NO_SUCH, moment, x -> x.judged(0, 3));
            refused(NO_SUCH, moment, x -> x.turn(0, 3));
            refused(CANNOT_BE, moment, x -> x.look(-1));
            refused(CANNOT_BE, moment, x -> x.until(3));
            refused(NO_SUCH, moment, x -> x.would(9600, 0));
            refused(CANNOT_BE, moment, x -> x.regained(401));
            refused(NO_SUCH, moment, x -> x.spread(9600, 0));
            refused(NO_SUCH, moment, x -> x.rights(9600, 1, 0));
            refused(NO_SUCH, moment, x -> x.phase(2));
            refused(NO_SUCH, moment, x -> x.tuned(0));
            refused(NO_SUCH, moment, x -> x.starts(4));
            refused(NO_SUCH, moment, x -> x.latest(3));
            refused(CANNOT_BE, moment, x -> x.syndrome(0, 256));
            refused(CANNOT_BE, moment, x -> x.single(256));
            refused(CANNOT_BE, moment, x -> x.pairs(256, 0));
            refused(CANNOT_BE, moment, x -> x.nearest(256, 0));
            refused(NO_SUCH, moment, x -> x.mending(0, 0, 3));
            refused(CANNOT_BE, moment, x -> x.words(41));
            refused(NO_SUCH, moment, x -> x.cases(0, 3));
            refused(NO_SUCH, moment, x -> x.unseen(0, 5));
            refused(NO_SUCH, moment, x -> x.odds(2, 0, 0, 0));
            refused(NOT_NOW, moment, x -> x.mean(0, 256, 0));
            refused(NO_SUCH, moment, x -> x.half(2, 0));
        }
    }

    @Says("(Of several that which the call tells first; all these ahead of NONE.)")
    void codesInTheirOrder() {
        // the line is full, something was taken, 64 were sent: each call could be refused by all its codes
        Run run = x -> {
            sending(x, 64);
            zeros(x, 9600 - 64 * 72);
            x.take(300);
        };
        refused(CANNOT_BE, run, x -> x.bits(33, 0));
        refused(TOO_MANY, run, x -> x.bits(32, 0));
        refused(CANNOT_BE, run, x -> x.send(1, 1000004));
        refused(TOO_MANY, run, x -> x.send(1, 1000003));
        refused(CANNOT_BE, run, x -> x.rest(21));
        refused(TOO_MANY, run, x -> x.rest(20));
        refused(NO_SUCH, run, x -> x.flip(-1));
        refused(NOT_NOW, run, x -> x.flip(0));
        refused(NO_SUCH, run, x -> x.drop(-1, 0));
        refused(CANNOT_BE, run, x -> x.drop(0, 0));
        refused(NOT_NOW, run, x -> x.drop(0, 1));
        refused(NO_SUCH, run, x -> x.slip(-1, 0, 0));
        refused(CANNOT_BE, run, x -> x.slip(0, 0, 0));
        refused(TOO_MANY, run, x -> x.slip(0, 1, 0));
        refused(NO_SUCH, run, x -> x.disturb(-1, 0, 0, -1));
        refused(CANNOT_BE, run, x -> x.disturb(0, 1, 0, 0));
        refused(CANNOT_BE, run, x -> x.disturb(0, 1, 1, -1));
        refused(NOT_NOW, run, x -> x.disturb(0, 1, 1, 0));
        refused(NO_SUCH, run, x -> x.terms(-1, 99));
        refused(CANNOT_BE, run, x -> x.terms(0, 49));
        refused(NOT_NOW, run, x -> x.terms(0, 48));
        refused(NO_SUCH, run, x -> x.would(0, 6));
        refused(NO_SUCH, run, x -> x.would(-1, 0));
        refused(NOT_NOW, run, x -> x.would(0, 5));
        refused(NO_SUCH, run, x -> x.spread(-1, -2));
        refused(CANNOT_BE, run, x -> x.spread(0, -2));
        refused(NOT_NOW, run, x -> x.spread(0, -1));
        refused(NO_SUCH, run, x -> x.rights(9600, 0, -2));
        refused(CANNOT_BE, run, x -> x.rights(0, 0, -2));
        refused(NO_SUCH, run, x -> x.mending(0, 256, 3));
        refused(CANNOT_BE, run, x -> x.mending(0, 256, 2));
        refused(NO_SUCH, run, x -> x.cases(41, 3));
        refused(CANNOT_BE, run, x -> x.cases(41, 2));
        refused(NO_SUCH, run, x -> x.unseen(41, 5));
        refused(CANNOT_BE, run, x -> x.unseen(41, 4));
        refused(NO_SUCH, run, x -> x.odds(0, 8, 257, 5));
        refused(NO_SUCH, run, x -> x.odds(2, 8, 257, 4));
        refused(CANNOT_BE, run, x -> x.odds(1, 8, 257, 4));
        refused(NO_SUCH, run, x -> x.mean(2, 257, 1));
        refused(NO_SUCH, run, x -> x.mean(1, 0, 2));
        refused(CANNOT_BE, run, x -> x.mean(1, 257, 1));
        refused(NOT_NOW, run, x -> x.mean(1, 0, 1));
        refused(NO_SUCH, run, x -> x.half(2, 257));
    }

    @Says("(Of several that which the call tells first; all these ahead of NONE.)")
    void codesAheadOfNone() {
        Run run = x -> {
            sending(x, 3);
            x.take(9600);
        };
        // on this line each of these would be NONE but for its wrong input
        refused(NO_SUCH, run, x -> x.load(2, 4));
        refused(CANNOT_BE, run, x -> x.until(-1));
        refused(CANNOT_BE, run, x -> x.regained(1));
        refused(NOT_NOW, run, x -> x.spread(0, GREATEST));
        refused(NO_SUCH, run, x -> x.spread(216, GREATEST));
        refused(NO_SUCH, run, x -> x.rights(216, 1, GREATEST));
        refused(CANNOT_BE, run, x -> x.rights(0, 2001, GREATEST));
        refused(NO_SUCH, run, x -> x.phase(2));
        refused(NO_SUCH, run, x -> x.latest(3));
        refused(CANNOT_BE, run, x -> x.single(-1));
        refused(CANNOT_BE, run, x -> x.pairs(-1, GREATEST));
        refused(CANNOT_BE, run, x -> x.nearest(-1, GREATEST));
        refused(NO_SUCH, run, x -> x.half(-1, 256));
        refused(CANNOT_BE, run, x -> x.half(0, 257));
        refused(NO_SUCH, run, x -> x.delivered(2, 3));
        due(behind(run).load(1, 4), NONE);
        due(behind(run).phase(1), NONE);
        due(behind(run).latest(1), NONE);
        due(behind(run).half(0, 256), NONE);
    }

    @Says("The constants: `NONE = -1`: There is none.")
    void none() {
        due(CellFinder.NONE, -1);
    }
}
