/** The edges of promises 35 to 37 and 39 to 48: checks, words, odds, and what is told. */
final class CheckEdges extends Edges {
    private static final int[] NO_BYTES = {-1, 256, LEAST, GREATEST};

    @Says(promise = 35, value = "CHECK of a HEADER.")
    void checkOfEachBit() {
        Finder x = new Finder();
        due(x.check(0), 85);
        due(x.check(1), 82);
        due(x.check(LEAST), 49 ^ 85);
        for (int bit = 0; bit < 32; bit++) {
            due(x.check(1 << (31 - bit)), NaiveFinder.made(bit) ^ 85);
            due(x.check(~(1 << (31 - bit))), NaiveFinder.restOf((~(1 << (31 - bit)) & 0xFFFFFFFFL) << 8) ^ 85);
        }
        for (int header : new int[] {-1, GREATEST, 0x12345678, 0xDEADBEEF}) {
            due(x.check(header), NaiveFinder.checkOf(header));
        }
        unchanged(Edges::busy, y -> y.check(-1));
    }

    @Says(promise = 36, value = {"SYNDROME of a HEADER with a CHECK (0 to 255).", "-3."})
    void syndromeOfLeastAndGreatestCheck() {
        Finder x = new Finder();
        due(x.syndrome(0, 0), 85);
        due(x.syndrome(0, 255), 170);
        due(x.syndrome(-1, 0), x.check(-1));
        due(x.syndrome(-1, x.check(-1)), 0);
        for (int check : NO_BYTES) {
            refused(CANNOT_BE, Edges::busy, y -> y.syndrome(0, check));
        }
        for (int bit = 0; bit < 8; bit++) {
            due(x.syndrome(7, x.check(7) ^ 1 << bit), 1 << bit);
        }
    }

    @Says(promise = 37, value = {"The bit of 40 (0 the first) which alone, flipped, makes a SYNDROME (0 to 255) of 0.", "NONE: none;", "-3."})
    void singleFirstAndLastBit() {
        Finder x = new Finder();
        due(x.single(49), 0);
        due(x.single(1), 39);
        due(x.single(7), 31);
        due(x.single(128), 32);
        int many = 0;
        for (int syndrome = 0; syndrome < 256; syndrome++) {
            int bit = x.single(syndrome);
            if (bit != NONE) {
                many++;
                due(NaiveFinder.made(bit), syndrome);
            }
        }
        due(many, 40);
        quiet(NONE, Edges::busy, y -> y.single(0));
        quiet(NONE, Edges::busy, y -> y.single(255));
        // 98 would be the bit ahead of the first
        due(x.single(98), NONE);
        for (int syndrome : NO_BYTES) {
            refused(CANNOT_BE, Edges::busy, y -> y.single(syndrome));
        }
    }

    @Says(promise = 39, value = {"Two bits of 40, a ahead of b, that together, flipped, make a SYNDROME of 0: how many such pairs (k NONE), the k-th, "
        + "rising, as 100 a and b.", "NONE: not so many;", "-3: the SYNDROME isn't 0 to 255, k is below NONE."})
    void pairsFirstAndLast() {
        Finder x = new Finder();
        due(x.pairs(3, NONE), 8);
        due(x.pairs(3, 0), 517);
        due(x.pairs(3, 7), 3839);
        quiet(NONE, Edges::busy, y -> y.pairs(3, 8));
        quiet(NONE, Edges::busy, y -> y.pairs(3, GREATEST));
        // the first and the last pair of all
        due(x.pairs(NaiveFinder.made(0, 1), 0), 1);
        due(x.pairs(NaiveFinder.made(0, 39), 0), 39);
        due(x.pairs(NaiveFinder.made(38, 39), x.pairs(NaiveFinder.made(38, 39), NONE) - 1), 3839);
        // no pair makes 0, nor the SYNDROME of one bit alone, nor one of three
        due(x.pairs(0, NONE), 0);
        due(x.pairs(0, 0), NONE);
        due(x.pairs(1, NONE), 0);
        due(x.pairs(200, NONE), 0);
        due(x.pairs(255, NONE), countOfPairs(255));
        for (int syndrome : NO_BYTES) {
            refused(CANNOT_BE, Edges::busy, y -> y.pairs(syndrome, NONE));
            refused(CANNOT_BE, Edges::busy, y -> y.pairs(syndrome, -2));
        }
        refused(CANNOT_BE, Edges::busy, y -> y.pairs(3, -2));
        refused(CANNOT_BE, Edges::busy, y -> y.pairs(3, LEAST));
    }

    @Says(promise = 39, value = "how many such pairs (k NONE), the k-th, rising, as 100 a and b.")
    void pairsOfEachSyndrome() {
        int all = 0;
        for (int syndrome = 0; syndrome < 256; syndrome++) {
            Finder x = new Finder();
            int many = x.pairs(syndrome, NONE);
            due(many, countOfPairs(syndrome));
            all += many;
            int before = NONE;
            for (int k = 0; k < many; k++) {
                int pair = x.pairs(syndrome, k);
                due(pair > before && pair / 100 < pair % 100 && pair % 100 < 40 ? 1 : 0, 1);
                due(NaiveFinder.made(pair / 100, pair % 100), syndrome);
                before = pair;
            }
            due(x.pairs(syndrome, many), NONE);
        }
        due(all, 780);
    }

    private static int countOfPairs(int syndrome) {
        int many = 0;
        for (int a = 0; a < 40; a++) {
            for (int b = a + 1; b < 40; b++) {
                many += NaiveFinder.made(a, b) == syndrome ? 1 : 0;
            }
        }
        return many;
    }

    @Says(promise = 40, value = {"The fewest bits of 40 that, flipped, make a SYNDROME of 0: how many (k NONE), the k-th of the row of these that is first "
        + "(rising; by the first in which two rows differ).", "NONE: not so many;", "-3 likewise."})
    void nearestFirstAndLast() {
        Finder x = new Finder();
        // none at all for 0
        due(x.nearest(0, NONE), 0);
        due(x.nearest(0, 0), NONE);
        due(x.nearest(49, NONE), 1);
        due(x.nearest(49, 0), 0);
        due(x.nearest(49, 1), NONE);
        due(x.nearest(1, 0), 39);
        due(x.nearest(NaiveFinder.made(0, 39), 0), 0);
        due(x.nearest(NaiveFinder.made(0, 39), 1), 39);
        due(x.nearest(200, NONE), 3);
        due(x.nearest(200, 2), 17);
        quiet(NONE, Edges::busy, y -> y.nearest(200, 3));
        quiet(NONE, Edges::busy, y -> y.nearest(200, 4));
        quiet(NONE, Edges::busy, y -> y.nearest(200, GREATEST));
        for (int syndrome : NO_BYTES) {
            refused(CANNOT_BE, Edges::busy, y -> y.nearest(syndrome, NONE));
            refused(CANNOT_BE, Edges::busy, y -> y.nearest(syndrome, -2));
        }
        refused(CANNOT_BE, Edges::busy, y -> y.nearest(3, -2));
        refused(CANNOT_BE, Edges::busy, y -> y.nearest(3, LEAST));
        refused(CANNOT_BE, Edges::busy, y -> y.nearest(0, -2));
    }

    @Says(promise = 40, value = {"The fewest bits of 40 that, flipped, make a SYNDROME of 0: how many (k NONE), the k-th of the row of these that is first "
        + "(rising; by the first in which two rows differ)."})
    void nearestOfEachSyndrome() {
        NaiveFinder naive = new NaiveFinder();
        for (int syndrome = 0; syndrome < 256; syndrome++) {
            Finder x = new Finder();
            int many = x.nearest(syndrome, NONE);
            due(many, naive.nearest(syndrome, NONE));
            for (int k = 0; k <= many; k++) {
                due(x.nearest(syndrome, k), naive.nearest(syndrome, k));
            }
            // the first of all rows of two is the first pair
            if (many == 2) {
                due(x.nearest(syndrome, 0) * 100 + x.nearest(syndrome, 1), x.pairs(syndrome, 0));
            }
        }
    }

    @Says(promise = 41, value = {"What becomes of a HEADER with a CHECK (0 to 255), if it is SURE, MODE is MENDING, MENDS 1, ALPHA far off: what 0 VERDICT, "
        + "1 HEADER, 2 CHECK behind it (as they were but for a MENDED bit).", "-2: what;", "-3."})
    void mendingFirstAndLastBit() {
        for (int header : new int[] {0, -1, LEAST, GREATEST, 0xDEADBEEF}) {
            Finder x = new Finder();
            int check = x.check(header);
            mending(x, header, check, 0, header, check);
            mending(x, header ^ LEAST, check, 1, header, check);
            mending(x, header ^ 1, check, 1, header, check);
            mending(x, header, check ^ 128, 1, header, check);
            mending(x, header, check ^ 1, 1, header, check);
            mending(x, header ^ 3, check, 2, header ^ 3, check);
            mending(x, header ^ 1, check ^ 1, 2, header ^ 1, check ^ 1);
            mending(x, header, check ^ 255, x.single(255) == NONE ? 2 : 1, header, check ^ 255);
        }
        Finder y = new Finder();
        mending(y, 0, 0, y.single(85) == NONE ? 2 : 1, 0, 0);
        for (int what : new int[] {-1, 3, LEAST, GREATEST}) {
            refused(NO_SUCH, Edges::busy, x -> x.mending(0, 0, what));
            refused(NO_SUCH, Edges::busy, x -> x.mending(0, 256, what));
        }
        for (int check : NO_BYTES) {
            refused(CANNOT_BE, Edges::busy, x -> x.mending(0, check, 0));
            refused(CANNOT_BE, Edges::busy, x -> x.mending(0, check, 2));
        }
    }

    private void mending(Finder x, int header, int check, int verdict, int mendedHeader, int mendedCheck) {
        due(x.mending(header, check, 0), verdict);
        due(x.mending(header, check, 1), mendedHeader);
        due(x.mending(header, check, 2), mendedCheck);
    }

    @Says(promise = 41, value = "if it is SURE, MODE is MENDING, MENDS 1, ALPHA far off:")
    void mendingWhateverTheReceiverIs() {
        // in HUNT, by MENDS 0, by ALPHA 1, SEEING
        Finder x = new Finder();
        x.terms(3, 0);
        x.terms(1, 1);
        due(x.mending(1, x.check(1) ^ 1, 0), 1);
        Finder y = sent(4);
        y.flip(72 * 2 + 1);
        y.take(72 * 2 + 40);
        due(y.state(3), 0);
        due(y.mending(1, y.check(1) ^ 1, 0), 1);
    }

    @Says(promise = 42, value = {"WORDS of weight w.", "-3."})
    void wordsFirstAndLast() {
        NaiveFinder naive = new NaiveFinder();
        Finder x = new Finder();
        for (int w = 0; w <= 40; w++) {
            due(x.words(w), naive.words(w));
        }
        // asked in another order they are the same
        Finder y = new Finder();
        due(y.words(40), 0);
        due(y.words(4), 727);
        due(y.words(0), 1);
        for (int w : new int[] {-1, 41, LEAST, GREATEST}) {
            refused(CANNOT_BE, Edges::busy, z -> z.words(w));
        }
        unchanged(Edges::busy, z -> z.words(20));
    }

    @Says(promise = 43, value = {"Rows of 40 bits of weight w, what 0 of SYNDROME 0 (as for WORDS), 1 of that of one bit alone, 2 of others.", "-2: what;",
        "-3: w."})
    void casesFirstAndLast() {
        Finder x = new Finder();
        long[][] few = {{1, 0, 0}, {0, 40, 0}, {0, 0, 780}, {0, 2908, 6972}};
        for (int w = 0; w < few.length; w++) {
            for (int what = 0; what < 3; what++) {
                due(x.cases(w, what), few[w][what]);
            }
        }
        // all ones, and all ones but for one: of one SYNDROME each
        int ones = NaiveFinder.restOf((1L << 40) - 1);
        due(x.cases(40, 0), ones == 0 ? 1 : 0);
        due(x.cases(40, 1), x.single(ones) == NONE ? 0 : 1);
        due(x.cases(40, 2), ones != 0 && x.single(ones) == NONE ? 1 : 0);
        long[] oneLess = new long[3];
        for (int bit = 0; bit < 40; bit++) {
            int syndrome = ones ^ NaiveFinder.made(bit);
            oneLess[syndrome == 0 ? 0 : x.single(syndrome) == NONE ? 2 : 1]++;
        }
        for (int what = 0; what < 3; what++) {
            due(x.cases(39, what), oneLess[what]);
        }
        NaiveFinder naive = new NaiveFinder();
        for (int w = 0; w <= 40; w++) {
            for (int what = 0; what < 3; what++) {
                due(x.cases(w, what), naive.cases(w, what));
            }
        }
        for (int what : new int[] {-1, 3, LEAST, GREATEST}) {
            refused(NO_SUCH, Edges::busy, y -> y.cases(4, what));
            refused(NO_SUCH, Edges::busy, y -> y.cases(41, what));
        }
        for (int w : new int[] {-1, 41, LEAST, GREATEST}) {
            refused(CANNOT_BE, Edges::busy, y -> y.cases(w, 0));
            refused(CANNOT_BE, Edges::busy, y -> y.cases(w, 2));
        }
    }

    @Says(promise = 44, value = {"UNSEEN of w, what as told.", "-2: what;", "-3: w."})
    void unseenFirstAndLast() {
        Finder x = new Finder();
        long[][] told = {{0, 1, 1, 0x3FF00000, 0, 0x3F800000}, {1, 0, 40, 0, 0, 0}, {4, 727, 91390, 0, 0, 0}, {40, 0, 1, 0, 0, 0}};
        long bits = Double.doubleToLongBits(727.0 / 91390.0);
        told[2][3] = (int) (bits >> 32);
        told[2][4] = (int) bits;
        told[2][5] = Float.floatToIntBits((float) (727.0 / 91390.0));
        for (long[] row : told) {
            for (int what = 0; what <= 4; what++) {
                due(x.unseen((int) row[0], what), row[what + 1]);
            }
        }
        due(x.unseen(20, 1), 137846528820L);
        for (int what : new int[] {-1, 5, LEAST, GREATEST}) {
            refused(NO_SUCH, Edges::busy, y -> y.unseen(4, what));
            refused(NO_SUCH, Edges::busy, y -> y.unseen(41, what));
        }
        for (int w : new int[] {-1, 41, LEAST, GREATEST}) {
            refused(CANNOT_BE, Edges::busy, y -> y.unseen(w, 0));
            refused(CANNOT_BE, Edges::busy, y -> y.unseen(w, 4));
        }
    }

    @Says(promise = 45, value = {"ODDS (0 LOST, 1 GAINED) of n CELLS by w, what as told.", "-2: which, what;", "-3: n, w."})
    void oddsFirstAndLast() {
        Finder x = new Finder();
        due(x.odds(0, 7, 0, 0), 1L << 56);
        due(x.odds(0, 7, 0, 1), 1L << 56);
        due(x.odds(0, 7, 256, 0), 0);
        due(x.odds(1, 7, 256, 0), 1L << 56);
        due(x.odds(1, 7, 0, 0), 0);
        due(x.odds(0, 0, 0, 0), 0);
        due(x.odds(1, 0, 256, 0), 0);
        due(x.odds(1, 0, 256, 1), 1);
        due(x.odds(1, 0, 256, 4), 0);
        for (int which : new int[] {-1, 2, LEAST, GREATEST}) {
            refused(NO_SUCH, Edges::busy, y -> y.odds(which, 0, 0, 0));
            refused(NO_SUCH, Edges::busy, y -> y.odds(which, 8, 257, 0));
        }
        for (int what : new int[] {-1, 5, LEAST, GREATEST}) {
            refused(NO_SUCH, Edges::busy, y -> y.odds(0, 0, 0, what));
            refused(NO_SUCH, Edges::busy, y -> y.odds(1, -1, -1, what));
        }
        for (int n : new int[] {-1, 8, LEAST, GREATEST}) {
            refused(CANNOT_BE, Edges::busy, y -> y.odds(0, n, 0, 0));
            refused(CANNOT_BE, Edges::busy, y -> y.odds(1, n, 256, 4));
        }
        for (int w : new int[] {-1, 257, LEAST, GREATEST}) {
            refused(CANNOT_BE, Edges::busy, y -> y.odds(0, 0, w, 0));
            refused(CANNOT_BE, Edges::busy, y -> y.odds(1, 7, w, 4));
        }
    }

    @Says(promise = 45, value = "ODDS (0 LOST, 1 GAINED) of n CELLS by w, what as told.")
    void oddsOfEachTerm() {
        for (int term = 1; term <= 15; term++) {
            NaiveFinder naive = new NaiveFinder();
            naive.terms(1, term);
            naive.terms(2, term);
            for (int w : new int[] {0, 1, 2, 127, 128, 129, 254, 255, 256}) {
                Finder x = new Finder();
                x.terms(1, term);
                x.terms(2, term);
                for (int i = 0; i < 80; i++) {
                    due(x.odds(i / 40, i / 5 % 8, w, i % 5), naive.odds(i / 40, i / 5 % 8, w, i % 5));
                }
            }
        }
    }

    @Says(promise = 46, value = {"MEAN (0 LOST, 1 GAINED) by w, part 0: the upper, 1: the lower half of the double's bits (as an int).", "-2: which, part;",
        "-3: w;", "-5: q, p is 0."})
    void meanFirstAndLast() {
        Finder x = new Finder();
        // seven cells by q 1, seven (DELTA and 1) by p 1
        due(x.mean(0, 0, 0), 0x401C0000);
        due(x.mean(0, 0, 1), 0);
        due(x.mean(1, 256, 0), 0x401C0000);
        due(x.mean(1, 256, 1), 0);
        for (int part = 0; part < 2; part++) {
            int one = part;
            refused(NOT_NOW, Edges::busy, y -> y.mean(0, 256, one));
            refused(NOT_NOW, Edges::busy, y -> y.mean(1, 0, one));
            for (int w : new int[] {-1, 257, LEAST, GREATEST}) {
                refused(CANNOT_BE, Edges::busy, y -> y.mean(0, w, one));
                refused(CANNOT_BE, Edges::busy, y -> y.mean(1, w, one));
            }
        }
        for (int wrong : new int[] {-1, 2, LEAST, GREATEST}) {
            refused(NO_SUCH, Edges::busy, y -> y.mean(wrong, 9, 0));
            refused(NO_SUCH, Edges::busy, y -> y.mean(wrong, 257, 0));
            refused(NO_SUCH, Edges::busy, y -> y.mean(0, 9, wrong));
            refused(NO_SUCH, Edges::busy, y -> y.mean(0, 256, wrong));
        }
    }

    @Says(promise = 46, value = "MEAN (0 LOST, 1 GAINED) by w, part 0: the upper, 1: the lower half of the double's bits (as an int).")
    void meanOfEachTerm() {
        boolean isBelow = false;
        for (int term = 1; term <= 15; term++) {
            NaiveFinder naive = new NaiveFinder();
            naive.terms(1, term);
            naive.terms(2, term);
            Finder x = new Finder();
            x.terms(1, term);
            x.terms(2, term);
            for (int w = 0; w <= 256; w += w < 3 || w > 252 ? 1 : 7) {
                for (int i = 0; i < 4 && x.callsLeft() > 0; i++) {
                    long want = naive.mean(i / 2, w, i % 2);
                    due(x.mean(i / 2, w, i % 2), want);
                    isBelow |= want < -5;
                }
            }
        }
        due(isBelow ? 1 : 0, 1);
    }

    @Says(promise = 47, value = {"The least n (0 to 7) by which ODDS are a half or more (twice N is D at least).", "NONE: by none;", "-2: which;", "-3: w."})
    void halfFirstAndLast() {
        Finder x = new Finder();
        x.terms(1, 1);
        x.terms(2, 1);
        // just a half, and one less
        due(x.half(0, 128), 1);
        due(x.half(0, 129), 2);
        due(x.half(1, 128), 1);
        due(x.half(1, 127), 3);
        due(x.half(0, 0), 1);
        due(x.half(1, 256), 1);
        quiet(NONE, Edges::busy, y -> y.half(0, 256));
        quiet(NONE, Edges::busy, y -> y.half(1, 0));
        // by ALPHA 1 in n cells: 256 to the n less w to the n; n 7 is the last
        due(x.half(0, 231), 7);
        due(x.half(0, 232), NONE);
        for (int term : new int[] {7, 8}) {
            x.terms(1, term);
            x.terms(2, term);
            due(x.half(0, 0), term == 7 ? 7 : NONE);
            due(x.half(1, 256), term == 7 ? 7 : NONE);
        }
        for (int which : new int[] {-1, 2, LEAST, GREATEST}) {
            refused(NO_SUCH, Edges::busy, y -> y.half(which, 9));
            refused(NO_SUCH, Edges::busy, y -> y.half(which, 257));
        }
        for (int w : new int[] {-1, 257, LEAST, GREATEST}) {
            refused(CANNOT_BE, Edges::busy, y -> y.half(0, w));
            refused(CANNOT_BE, Edges::busy, y -> y.half(1, w));
        }
    }

    @Says(promise = 47, value = "The least n (0 to 7) by which ODDS are a half or more (twice N is D at least).")
    void halfByOdds() {
        for (int term : new int[] {1, 2, 3, 7, 15}) {
            for (int w = 0; w <= 256; w += 4) {
                Finder x = new Finder();
                x.terms(1, term);
                x.terms(2, term);
                for (int which = 0; which < 2; which++) {
                    int want = NONE;
                    for (int n = 7; n >= 0; n--) {
                        if (2 * x.odds(which, n, w, 0) >= x.odds(which, n, w, 1)) {
                            want = n;
                        }
                    }
                    due(x.half(which, w), want);
                }
            }
        }
    }

    @Says(promise = 48, value = "0 bits of THE LINE, 1 AT, 2 SENT, 10 to 16 TERMS. NONE for others.")
    void toldFirstAndLast() {
        Finder x = behind(y -> {
            sending(y, 3);
            y.terms(5, 1);
            y.terms(6, 8);
            y.bits(7, 0);
            y.take(50);
        });
        int[] told = {223, 50, 3};
        for (int what = 0; what < 3; what++) {
            due(x.told(what), told[what]);
        }
        int[] terms = {4, 2, 1, 1, 40, 1, 8};
        for (int what = 0; what < 7; what++) {
            due(x.told(10 + what), terms[what]);
        }
        for (int what : new int[] {-1, 3, 4, 9, 17, 18, LEAST, GREATEST}) {
            quiet(NONE, Edges::busy, y -> y.told(what));
        }
        x.empty();
        for (int what = 0; what < 3; what++) {
            due(x.told(what), 0);
        }
        due(x.told(16), 8);
        x.fresh();
        due(x.told(10), 4);
        due(x.told(16), 8);
        due(full().told(0), 9600);
        due(sent(64).told(2), 64);
    }
}
