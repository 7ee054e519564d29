/** The edges of part 2 of the terms: the receiver, bit by bit. */
final class ReceiverTermsEdges extends Edges {
    /** Header 0 with its check behind so many zeros: LAST looks right behind its last bit and not ahead of it. */
    private static void rightBehind(Finder x, int lead) {
        small(x);
        zeros(x, lead + 32);
        x.bits(8, 85);
    }

    /** Puts the last n of the 40 bits of a header and its check on the line. */
    private static void lastOfHeader(Finder x, int header, int n) {
        int check = x.check(header);
        if (n > 8) {
            x.bits(n - 8, header);
        }
        if (n > 0) {
            x.bits(Math.min(n, 8), check);
        }
    }

    @Says("THE RECEIVER, bit by bit. STATE 0 HUNT (at first), 1 NEAR, 2 SURE.")
    void states() {
        Finder x = sent(2);
        due(x.state(0), 0);
        due(x.take(39), 0);
        due(x.take(1), 1);
        due(x.take(71), 1);
        due(x.take(1), 2);
        // one by one or all at once
        Finder y = sent(2);
        due(y.take(112), 2);
        due(y.count(7), 2);
    }

    @Says("LAST: the last 40 bits that it took since it was FRESH.")
    void lastIsFullBehindForty() {
        Finder x = new Finder();
        x.bits(1, 1);
        zeros(x, 40);
        due(x.state(7), NONE);
        x.take(39);
        due(x.state(7), NONE);
        x.take(1);
        due(x.state(7), 85 ^ 49);
        // the first one falls out
        x.take(1);
        due(x.state(7), 85);
        x.bits(1, 1);
        x.take(1);
        due(x.state(7), 84);
        x.fresh();
        due(x.state(7), NONE);
        zeros(x, 40);
        x.take(39);
        due(x.state(7), NONE);
        x.take(1);
        due(x.state(7), 85);
    }

    @Says("LAST: the last 40 bits that it took since it was FRESH.")
    void lastGoesOnOverTheEmptiedLine() {
        Finder x = behind(y -> rightBehind(y, 0));
        x.take(39);
        x.empty();
        x.bits(1, 1);
        due(x.take(1), NEAR);
        due(x.state(7), 0);
        Finder z = behind(y -> rightBehind(y, 0));
        z.take(39);
        z.empty();
        z.bits(1, 0);
        due(z.take(1), HUNT);
        due(z.state(7), 1);
    }

    @Says("HUNT: behind each STEP-th bit that it takes in HUNT since it came to it (or was FRESH; STEP as it is then: if "
        + "how many it took so is a multiple of it):")
    void huntByEachStep() {
        for (int step = 1; step <= 8; step++) {
            for (int lead = 0; lead <= 16; lead++) {
                int ahead = lead;
                Finder x = behind(y -> rightBehind(y, ahead));
                x.terms(6, step);
                due(x.take(lead + 39), HUNT);
                due(x.take(1), (lead + 40) % step == 0 ? NEAR : HUNT);
                due(x.state(7), 0);
            }
        }
    }

    @Says("HUNT: behind each STEP-th bit that it takes in HUNT since it came to it (or was FRESH; STEP as it is then: if "
        + "how many it took so is a multiple of it):")
    void stepsFromHuntOn() {
        // lost behind 184 (or 112); 72 bits on a check looks right, 112 in HUNT in all
        for (int step : new int[] {3, 7}) {
            Finder x = resting(5);
            x.terms(1, 1);
            x.flip(72 * 2 + 2);
            due(x.take(72 * 2 + 40), HUNT);
            x.terms(6, step);
            due(x.take(72), step == 3 ? NEAR : HUNT);
            Finder y = resting(5);
            y.flip(72 + 2);
            due(y.take(72 + 40), HUNT);
            y.terms(6, step);
            due(y.take(72), step == 3 ? NEAR : HUNT);
        }
    }

    @Says("HUNT: behind each STEP-th bit that it takes in HUNT since it came to it (or was FRESH; STEP as it is then: if "
        + "how many it took so is a multiple of it):")
    void stepsFromFreshOn() {
        for (int step : new int[] {5, 7}) {
            Finder x = behind(y -> rightBehind(y, 2));
            x.terms(6, step);
            x.take(2);
            x.fresh();
            due(x.take(40), step == 5 ? NEAR : HUNT);
        }
        // by emptying the line no step begins anew
        Finder y = behind(Edges::small);
        y.bits(2, 0);
        y.take(2);
        y.empty();
        zeros(y, 32);
        y.bits(8, 85);
        y.terms(6, 7);
        due(y.take(40), NEAR);
    }

    @Says("HUNT: behind each STEP-th bit that it takes in HUNT since it came to it (or was FRESH; STEP as it is then: if "
        + "how many it took so is a multiple of it):")
    void stepAsItIsThen() {
        Finder x = behind(y -> rightBehind(y, 2));
        x.terms(6, 4);
        x.take(41);
        x.terms(6, 3);
        due(x.take(1), NEAR);
        Finder z = behind(y -> rightBehind(y, 2));
        z.terms(6, 3);
        z.take(41);
        z.terms(6, 4);
        due(z.take(1), HUNT);
        // STEP by itself doesn't look again
        z.terms(6, 1);
        due(z.state(0), HUNT);
    }

    @Says("if it took 40 bits or more since it was FRESH, and LAST look right: NEAR, RIGHT is 0; the CELL is not GOOD; LOAD "
        + "bits come next.")
    void fortyBitsOrMore() {
        // with one 0 more ahead of them these 39 would look right
        Finder x = behind(Edges::small);
        zeros(x, 31);
        x.bits(8, 85);
        due(x.take(9600), HUNT);
        Finder y = behind(z -> rightBehind(z, 0));
        y.take(1);
        y.fresh();
        due(y.take(39), HUNT);
        Finder z = behind(v -> rightBehind(v, 0));
        due(z.take(39), HUNT);
        due(z.take(1), NEAR);
        Finder v = behind(w -> rightBehind(w, 1));
        due(v.take(40), HUNT);
        due(v.take(1), NEAR);
        // a multiple of STEP, but wrong
        Finder w = behind(u -> rightBehind(u, 0));
        w.flip(39);
        due(w.take(40), HUNT);
    }

    @Says("if it took 40 bits or more since it was FRESH, and LAST look right: NEAR, RIGHT is 0; the CELL is not GOOD; LOAD "
        + "bits come next.")
    void nearBeginsWithNothing() {
        Finder x = resting(6);
        x.terms(2, 3);
        x.flip(72 * 2 + 2);
        x.take(72 * 2 + 40);
        due(x.state(0), HUNT);
        due(x.state(1), 1);
        x.take(71);
        due(x.state(1), 1);
        due(x.take(1), NEAR);
        due(x.state(1), 0);
        due(x.state(4), 0);
        due(x.state(5), 0);
        due(x.state(6), 0);
        x.take(1);
        due(x.state(4), 1);
        due(x.stage(1, 0), x.bit(72 * 3 + 40));
        x.take(31);
        due(x.count(3), 0);
    }

    @Says("NEAR, SURE: LOAD bits come, then the 40 of a HEADER and CHECK, then LOAD bits, and so on.")
    void loadAndHeaderInTurn() {
        for (int bytes : new int[] {4, 48}) {
            Finder x = behind(Edges::small);
            x.terms(0, bytes);
            x.rest(4);
            x.take(40);
            for (int cell = 0; cell < 3; cell++) {
                x.take(1);
                due(x.state(4), 1);
                due(x.state(5), 0);
                x.take(8 * bytes - 2);
                due(x.state(4), 8 * bytes - 1);
                due(x.state(5), 0);
                x.take(1);
                due(x.state(4), 0);
                due(x.state(5), 0);
                x.take(1);
                due(x.state(4), 0);
                due(x.state(5), 1);
                x.take(38);
                due(x.state(4), 0);
                due(x.state(5), 39);
                due(x.count(8), cell);
                x.take(1);
                due(x.state(4), 0);
                due(x.state(5), 0);
                due(x.count(8), cell + 1);
            }
        }
    }

    @Says("Each LOAD bit is DESCRAMBLED: unlike the one that it took as LOAD bit 43 LOAD bits ago (0 ahead of all since it "
        + "was FRESH; what is taken in HUNT or as HEADER, CHECK doesn't count).")
    void descrambledByFortythreeLoadBitsAgo() {
        // six bytes: bits 0 to 42 of the first load taken are as they are, the five behind them are not
        Finder x = behind(Edges::small);
        x.terms(0, 6);
        zeros(x, 32);
        x.bits(8, 85);
        x.bits(32, 0);
        x.bits(16, 0);
        zeros(x, 32);
        x.bits(8, 85);
        x.bits(32, LEAST);
        x.bits(16, 0);
        zeros(x, 32);
        x.bits(8, 85);
        x.bits(32, 0);
        x.bits(16, 0);
        x.take(9600);
        // its first bit comes as it is, and again 43 LOAD bits on: bit 43 of the same LOAD
        due(x.load(0, 0), 128);
        due(x.load(0, 5), 0b00010000);
        due(x.load(0, 4), 0);
        for (int i = 0; i < 6; i++) {
            due(x.load(1, i), 0);
        }
    }

    @Says("Each LOAD bit is DESCRAMBLED: unlike the one that it took as LOAD bit 43 LOAD bits ago (0 ahead of all since it "
        + "was FRESH; what is taken in HUNT or as HEADER, CHECK doesn't count).")
    void huntAndHeaderDontCount() {
        Finder x = behind(Edges::small);
        x.bits(32, -1);
        x.bits(32, -1);
        x.take(64);
        due(x.state(0), HUNT);
        for (int i = 0; i < 43; i++) {
            due(x.stage(1, i), 0);
        }
        Finder y = sent(3);
        y.take(72);
        int[] before = new int[43];
        for (int i = 0; i < 43; i++) {
            before[i] = y.stage(1, i);
        }
        y.take(40);
        for (int i = 0; i < 43; i++) {
            due(y.stage(1, i), before[i]);
        }
        y.take(1);
        due(y.stage(1, 0), y.bit(112));
        due(y.stage(1, 1), before[0]);
        due(y.stage(1, 42), before[41]);
    }

    @Says("Each LOAD bit is DESCRAMBLED: unlike the one that it took as LOAD bit 43 LOAD bits ago (0 ahead of all since it "
        + "was FRESH; what is taken in HUNT or as HEADER, CHECK doesn't count).")
    void descrambledFromFreshOn() {
        // from the second cell on: 32 LOAD bits in NEAR, then 11 that are unlike what was never taken
        Finder x = sent(5);
        x.take(72);
        x.fresh();
        for (int i = 0; i < 43; i++) {
            due(x.stage(1, i), 0);
        }
        x.take(9600);
        due(x.count(3), 3);
        due(x.count(9), 1);
        long early = (2 * 1103 + 12345) % 1000003;
        due(x.load(0, 0), early % 256 ^ numberAt(x, 40 + 64 - 43, 8));
        due(x.load(0, 1) & 31, (early * 1103 + 12345) % 1000003 % 256 & 31);
        due(x.delivered(0, 3), NONE);
        due(x.delivered(1, 3), 3);
        due(x.delivered(2, 3), 4);
    }

    @Says("Behind the last LOAD bit of a CELL that is GOOD it is DELIVERED.")
    void deliveredBehindTheLastBit() {
        for (int bytes : new int[] {4, 48}) {
            Finder x = behind(Edges::small);
            x.terms(0, bytes);
            x.rest(4);
            int cell = 40 + 8 * bytes;
            x.take(2 * cell - 1);
            due(x.count(3), 0);
            due(x.delivered(0, 0), NO_SUCH);
            x.take(1);
            due(x.count(3), 1);
            due(x.delivered(0, 0), 1);
            x.take(cell - 1);
            due(x.count(3), 1);
            x.take(1);
            due(x.count(3), 2);
        }
        // those of NEAR and those that are dropped are not GOOD
        Finder y = sent(6);
        y.terms(2, 2);
        y.flip(72 * 3 + 1);
        y.flip(72 * 3 + 2);
        y.take(72 * 3);
        due(y.count(3), 1);
        y.take(72);
        due(y.count(3), 1);
        y.take(72);
        due(y.count(3), 2);
        due(y.delivered(1, 0), 104);
    }

    @Says("Behind a CHECK, in NEAR: SYNDROME 0: RIGHT is one more; if it is DELTA or more: SURE, MODE is MENDING, WRONG is 0, "
        + "the CELL is GOOD; else it is not GOOD.")
    void deltaLeastAndGreatest() {
        for (int delta = 1; delta <= 15; delta++) {
            Finder x = resting(17);
            x.terms(2, delta);
            due(x.take(40 + 72 * delta - 1), NEAR);
            due(x.state(1), delta - 1);
            due(x.state(3), 0);
            due(x.state(6), 0);
            due(x.take(1), SURE);
            due(x.state(1), delta);
            due(x.state(2), 0);
            due(x.state(3), 1);
            due(x.state(6), 1);
            due(x.count(3), 0);
            x.take(32);
            due(x.count(3), 1);
            due(x.delivered(0, 2), 72 * delta);
        }
    }

    @Says("Behind a CHECK, in NEAR: SYNDROME 0: RIGHT is one more; if it is DELTA or more: SURE, MODE is MENDING, WRONG is 0, "
        + "the CELL is GOOD; else it is not GOOD.")
    void deltaOrMore() {
        Finder x = resting(9);
        x.terms(2, 15);
        x.take(40 + 72 * 3);
        due(x.state(1), 3);
        x.terms(2, 1);
        due(x.state(0), NEAR);
        due(x.take(71), NEAR);
        due(x.take(1), SURE);
        due(x.state(1), 4);
        // what was told in SURE before: WRONG 2, SEEING
        Finder y = resting(9);
        flipAll(y, 72 * 2 + 1, 72 * 3 + 1);
        y.take(72 * 3 + 40);
        due(y.state(0), HUNT);
        due(y.state(2), 2);
        due(y.state(3), 0);
        due(y.take(72), NEAR);
        due(y.state(2), 2);
        due(y.state(3), 0);
        due(y.take(72), SURE);
        due(y.state(1), 1);
        due(y.state(2), 0);
        due(y.state(3), 1);
    }

    @Says("Another SYNDROME: HUNT.")
    void nearMendsNothing() {
        for (int bit = 0; bit < 40; bit++) {
            Finder x = resting(4);
            x.terms(2, 15);
            x.flip(72 * 2 + bit);
            due(x.take(72 * 2 + 39), NEAR);
            due(x.take(1), HUNT);
            due(x.state(1), 1);
            due(x.count(1), 0);
            due(x.count(2), 0);
            due(x.count(5), 0);
            due(x.judged(1, 1), NaiveFinder.made(bit));
            due(x.judged(1, 2), 3);
        }
    }

    @Says("In SURE: SYNDROME 0: WRONG is 0, MODE is MENDING, the CELL is GOOD.")
    void rightOneInSure() {
        Finder x = sent(6);
        x.terms(1, 4);
        flipAll(x, 72 * 2 + 1, 72 * 3 + 1);
        x.take(72 * 3 + 40);
        due(x.state(2), 2);
        due(x.state(3), 0);
        due(x.state(6), 0);
        x.take(71);
        due(x.state(2), 2);
        x.take(1);
        due(x.state(2), 0);
        due(x.state(3), 1);
        due(x.state(6), 1);
        due(x.state(1), 1);
        due(x.count(4), 1);
        due(x.count(7), 2);
    }

    @Says("Another one: WRONG is one more; if it is ALPHA or more: HUNT.")
    void alphaLeastAndGreatest() {
        for (int alpha = 1; alpha <= 15; alpha++) {
            Finder x = sent(18);
            x.terms(1, alpha);
            for (int i = 2; i < 18; i++) {
                x.flip(72 * i + 1);
            }
            due(x.take(72 * alpha + 40), SURE);
            due(x.state(2), alpha - 1);
            due(x.take(71), SURE);
            due(x.take(1), HUNT);
            due(x.state(2), alpha);
            due(x.state(6), 0);
            due(x.count(1), alpha > 1 ? 1 : 0);
            due(x.count(2), Math.max(0, alpha - 2));
            due(x.count(5), 1);
            due(x.judged(alpha, 2), 3);
            // by HUNT neither MENDED nor DROPPED
            due(x.count(8), 1 + alpha);
        }
    }

    @Says("Another one: WRONG is one more; if it is ALPHA or more: HUNT.")
    void alphaOrMore() {
        Finder x = sent(7);
        x.terms(1, 15);
        flipAll(x, 72 * 2 + 1, 72 * 3 + 1, 72 * 4 + 1);
        x.take(72 * 3 + 40);
        x.terms(1, 1);
        due(x.state(0), SURE);
        due(x.take(71), SURE);
        due(x.take(1), HUNT);
        due(x.state(2), 3);
        // as many, but not one behind the other
        Finder y = sent(9);
        flipAll(y, 72 * 2 + 1, 72 * 4 + 1, 72 * 6 + 1);
        due(y.take(9600), SURE);
        due(y.count(5), 0);
        due(y.count(1), 3);
    }

    @Says("Else, if MODE is MENDING, MENDS is 1, and the SYNDROME is that of one bit alone: that bit is MENDED in HEADER, "
        + "CHECK, the CELL is GOOD; else it isn't (it is DROPPED).")
    void eachBitIsMended() {
        for (int bit = 0; bit < 40; bit++) {
            Finder x = sent(4);
            x.flip(72 * 2 + bit);
            x.take(72 * 2 + 40);
            due(x.state(6), 1);
            due(x.count(1), 1);
            due(x.count(2), 0);
            due(x.judged(1, 2), 1);
            x.take(32);
            due(x.delivered(1, 0), 102);
            due(x.delivered(1, 1), 1);
            due(x.delivered(1, 3), 2);
            // THE LINE itself isn't mended
            due(x.bit(72 * 2 + bit), 1 - sent(4).bit(72 * 2 + bit));
        }
    }

    @Says("Else, if MODE is MENDING, MENDS is 1, and the SYNDROME is that of one bit alone: that bit is MENDED in HEADER, "
        + "CHECK, the CELL is GOOD; else it isn't (it is DROPPED).")
    void othersAreDropped() {
        Finder x = sent(5);
        flipAll(x, 72 * 2, 72 * 2 + 39);
        x.take(72 * 2 + 40);
        due(x.state(6), 0);
        due(x.count(1), 0);
        due(x.count(2), 1);
        due(x.judged(1, 2), 2);
        x.take(32);
        due(x.count(3), 1);
        // MENDS 0
        Finder y = sent(5);
        y.terms(3, 0);
        y.flip(72 * 2 + 3);
        y.take(72 * 3);
        due(y.count(1), 0);
        due(y.count(2), 1);
        due(y.count(3), 1);
        due(y.state(3), 0);
        // three bits with the SYNDROME of a fourth: that one is flipped, too
        Finder z = sent(5);
        int fourth = fourthOf(0, 1);
        flipAll(z, 72 * 2, 72 * 2 + 1, 72 * 2 + fourth / 100);
        z.take(72 * 3);
        due(z.judged(1, 2), 1);
        due(z.delivered(1, 1), 1);
        due(z.delivered(1, 0), 102 ^ headerBits(0, 1, fourth / 100, fourth % 100));
        due(z.count(9), 1);
    }

    /** Two bits behind 0 and 1 that make the SYNDROME which those two make, as 100 a and b. */
    private static int fourthOf(int a, int b) {
        Finder x = new Finder();
        int syndrome = NaiveFinder.made(a, b);
        for (int k = 0; k < x.pairs(syndrome, NONE); k++) {
            int pair = x.pairs(syndrome, k);
            if (pair / 100 > b) {
                return pair;
            }
        }
        throw new IllegalStateException("no word of four bits begins so");
    }

    private static int headerBits(int... bits) {
        int v = 0;
        for (int b : bits) {
            v ^= b < 32 ? 1 << (31 - b) : 0;
        }
        return v;
    }

    @Says("Both: MODE is SEEING.")
    void seeingBehindMendedAndDropped() {
        // MENDED, then DROPPED though it is one bit alone
        Finder x = sent(7);
        x.terms(1, 9);
        flipAll(x, 72 * 2 + 1, 72 * 3 + 1, 72 * 5 + 1);
        x.take(72 * 2 + 40);
        due(x.state(3), 0);
        x.take(72);
        due(x.judged(2, 2), 2);
        due(x.state(3), 0);
        // a right one, then MENDED again
        x.take(72);
        due(x.state(3), 1);
        x.take(72);
        due(x.judged(4, 2), 1);
        // DROPPED, then one bit alone: DROPPED, too
        Finder y = sent(7);
        y.terms(1, 9);
        flipAll(y, 72 * 2 + 1, 72 * 2 + 2, 72 * 3 + 1);
        y.take(72 * 3 + 40);
        due(y.judged(1, 2), 2);
        due(y.judged(2, 2), 2);
        // by MENDS 0 it is SEEING, MENDS 1 doesn't change that
        Finder z = sent(7);
        z.terms(1, 9);
        z.terms(3, 0);
        flipAll(z, 72 * 2 + 1, 72 * 3 + 1);
        z.take(72 * 2 + 40);
        z.terms(3, 1);
        due(z.state(3), 0);
        z.take(72);
        due(z.judged(2, 2), 2);
    }

    @Says("(By HUNT what was begun is let go; LAST goes on.)")
    void lastGoesOnIntoHunt() {
        // one bit more in the LOAD: the CHECK that looks wrong is right one bit later
        Finder x = sent(6);
        x.terms(1, 1);
        x.slip(72 + 50, 1, 1);
        due(x.take(72 * 2 + 40), HUNT);
        for (int what = 4; what <= 6; what++) {
            due(x.state(what), 0);
        }
        due(x.take(1), NEAR);
        due(x.turn(3, 0), 72 * 2 + 41);
        due(x.count(6), 40 + 1);
        // the same in NEAR
        Finder y = sent(6);
        y.slip(50, 1, 1);
        due(y.take(72 + 40), HUNT);
        due(y.take(1), NEAR);
        // what was DELIVERED stays
        due(x.count(3), 1);
        due(x.delivered(0, 2), 72);
    }

    @Says("By IDLES 1 a CELL that is GOOD, of HEADER 1 (as MENDED), isn't DELIVERED, but counted as IDLE.")
    void idleCells() {
        for (int idles = 0; idles <= 1; idles++) {
            Finder x = behind(Edges::small);
            x.terms(5, idles);
            int[] headers = {7, 0, 1, 2, 3, 1, LEAST + 1};
            for (int i = 0; i < headers.length; i++) {
                x.send(headers[i], i);
            }
            // 3 becomes 1 and is mended to 3; the 1 behind a right one becomes 0 and is mended to 1
            x.send(5, 7);
            x.send(3, 8);
            x.send(5, 9);
            x.send(1, 10);
            x.flip(72 * 8 + 30);
            x.flip(72 * 10 + 31);
            x.take(9600);
            due(x.count(10), idles == 1 ? 3 : 0);
            due(x.count(3), idles == 1 ? 7 : 10);
            due(x.count(1), 2);
            due(x.delivered(idles == 1 ? 5 : 7, 0), 3);
            due(x.count(9), 0);
            due(x.lost(), idles == 1 ? 4 : 1);
        }
    }

    @Says("By IDLES 1 a CELL that is GOOD, of HEADER 1 (as MENDED), isn't DELIVERED, but counted as IDLE.")
    void idleBehindTheLastLoadBit() {
        Finder x = resting(4);
        x.take(72 * 2 - 1);
        x.terms(5, 1);
        x.take(1);
        due(x.count(10), 1);
        due(x.count(3), 0);
        x.take(71);
        x.terms(5, 0);
        x.take(1);
        due(x.count(10), 1);
        due(x.count(3), 1);
        // not GOOD: neither
        Finder y = resting(4);
        y.terms(5, 1);
        y.terms(2, 2);
        y.take(72 * 2);
        due(y.count(10), 0);
        due(y.count(3), 0);
    }

    @Says("STILL: behind how many of the latest bits, one behind the other, it was SURE, if it is, else behind how many it "
        + "wasn't (0 as long as it is FRESH).")
    void stillBeginsAnew() {
        Finder x = sent(6);
        x.terms(1, 1);
        x.flip(72 * 3 + 1);
        due(x.state(10), 0);
        x.take(1);
        due(x.state(10), 1);
        x.take(38);
        due(x.state(10), 39);
        // from HUNT to NEAR it goes on
        x.take(1);
        due(x.state(10), 40);
        x.take(71);
        due(x.state(10), 111);
        x.take(1);
        due(x.state(10), 1);
        x.take(143);
        due(x.state(0), SURE);
        due(x.state(10), 144);
        x.take(1);
        due(x.state(0), HUNT);
        due(x.state(10), 1);
        x.take(1);
        due(x.state(10), 2);
        due(x.fresh(), 2);
        due(x.state(10), 0);
        x.take(1);
        due(x.state(10), 1);
        x.empty();
        due(x.state(10), 1);
        x.take(1);
        due(x.state(10), 1);
    }

    @Says("ALARM: UP behind a bit behind which it isn't SURE and STILL is PATIENCE or more; DOWN (as at first) behind one "
        + "behind which it is SURE and STILL is PATIENCE or more.")
    void alarmAtPatience() {
        for (int patience : new int[] {40, 41, 4000}) {
            Finder x = new Finder();
            x.terms(4, patience);
            zeros(x, 4001);
            due(x.state(9), 0);
            x.take(patience - 1);
            due(x.state(9), 0);
            due(x.count(11), 0);
            x.take(1);
            due(x.state(9), 1);
            due(x.count(11), 1);
            x.take(1);
            due(x.state(9), 1);
            due(x.count(11), 1);
        }
    }

    @Says("ALARM: UP behind a bit behind which it isn't SURE and STILL is PATIENCE or more; DOWN (as at first) behind one "
        + "behind which it is SURE and STILL is PATIENCE or more.")
    void alarmGoesDownAndComesUpAgain() {
        // SURE behind 112, STILL 40 behind 151; lost behind 256, found too soon for an alarm of 72
        Finder x = sent(20);
        x.terms(1, 1);
        x.take(112);
        due(x.state(9), 1);
        x.take(38);
        due(x.state(9), 1);
        x.take(1);
        due(x.state(9), 0);
        x.flip(72 * 3 + 1);
        x.take(72 * 3 + 40 + 38 - 151);
        due(x.state(0), HUNT);
        due(x.state(10), 39);
        due(x.state(9), 0);
        x.take(1);
        due(x.state(9), 1);
        due(x.count(11), 2);
        // lost again ahead of STILL 40 in SURE: it stays UP and doesn't come UP
        x.flip(72 * 6 + 1);
        x.take(72 * 5 + 40 - x.told(1));
        due(x.state(0), SURE);
        x.terms(4, 73);
        x.take(72);
        due(x.state(0), HUNT);
        due(x.state(9), 1);
        x.take(72);
        due(x.state(9), 1);
        due(x.count(11), 2);
    }

    @Says("ALARM: UP behind a bit behind which it isn't SURE and STILL is PATIENCE or more; DOWN (as at first) behind one "
        + "behind which it is SURE and STILL is PATIENCE or more.")
    void alarmByPatienceAsItIsThen() {
        Finder x = new Finder();
        zeros(x, 200);
        x.take(100);
        x.terms(4, 40);
        due(x.state(9), 0);
        x.take(1);
        due(x.state(9), 1);
        x.terms(4, 4000);
        due(x.state(9), 1);
        x.take(1);
        due(x.state(9), 1);
        due(x.count(11), 1);
    }

    @Says("DELIVERED: HEADER, LOAD, whether MENDED, where (AT behind its CHECK less 40; below 0, if THE LINE was emptied "
        + "meanwhile); the latest 12 are kept, numbered from the first ever on.")
    void twelveAreKept() {
        Finder x = sent(27);
        due(x.delivered(0, 0), NO_SUCH);
        x.take(72 * 13);
        due(x.delivered(0, 0), 101);
        due(x.delivered(11, 0), 112);
        due(x.delivered(12, 0), NO_SUCH);
        x.take(72);
        due(x.delivered(0, 0), NO_SUCH);
        due(x.delivered(1, 0), 102);
        due(x.delivered(12, 0), 113);
        due(x.delivered(13, 0), NO_SUCH);
        x.take(72 * 11);
        due(x.delivered(11, 0), NO_SUCH);
        due(x.delivered(12, 0), 113);
        due(x.delivered(23, 0), 124);
        x.take(72);
        due(x.delivered(12, 0), NO_SUCH);
        due(x.delivered(24, 0), 125);
        for (int k = 13; k <= 24; k++) {
            due(x.delivered(k, 0), 101 + k);
            due(x.delivered(k, 2), 72 * (k + 1));
            due(x.delivered(k, 3), k + 1);
            due(x.load(k, 0), ((k + 1) * 1103 + 12345) % 256);
        }
        x.fresh();
        due(x.delivered(24, 0), NO_SUCH);
        due(x.delivered(0, 0), NO_SUCH);
    }

    @Says("DELIVERED: HEADER, LOAD, whether MENDED, where (AT behind its CHECK less 40; below 0, if THE LINE was emptied "
        + "meanwhile); the latest 12 are kept, numbered from the first ever on.")
    void placeBelowNothing() {
        for (int taken = 0; taken <= 40; taken++) {
            Finder x = sent(4);
            x.take(72 * 2 + taken);
            x.empty();
            lastOfHeader(x, 102, 40 - taken);
            x.bits(32, 0);
            x.take(9600);
            due(x.count(3), 2);
            due(x.delivered(1, 0), 102);
            due(x.delivered(1, 2), taken < 40 ? -taken : 72 * 2);
            due(x.judged(1, 0), taken < 40 ? -taken : 72 * 2);
            due(x.delivered(0, 2), 72);
        }
        // emptied behind its CHECK, in its LOAD: it stays where it was
        Finder y = sent(4);
        y.take(72 * 2 + 40 + 31);
        y.empty();
        y.bits(1, 0);
        y.take(1);
        due(y.delivered(1, 2), 72 * 2);
        // emptied three times while the 40 are taken
        Finder z = sent(4);
        z.take(72 * 2 + 10);
        for (int i = 10; i < 40; i += 10) {
            int part = (int) ((102L << 8 | z.check(102)) >> (30 - i) & 1023);
            z.empty();
            z.bits(10, part);
            z.take(10);
        }
        due(z.judged(1, 0), 10 - 40);
        due(z.judged(1, 1), 0);
    }

    @Says("A TURN: STATE becomes another one: behind which bit (AT then), from, to; the latest 24 are kept, numbered likewise.")
    void twentyfourTurnsAreKept() {
        // each second header is wrong: turn k is behind the CHECK of cell k
        Finder x = behind(y -> plain(y, 60));
        for (int i = 1; i < 60; i += 2) {
            x.flip(72 * i + 2);
        }
        due(x.turn(0, 0), NO_SUCH);
        x.take(39);
        due(x.turn(0, 0), NO_SUCH);
        x.take(1);
        due(x.turn(0, 0), 40);
        due(x.turn(1, 0), NO_SUCH);
        x.take(72 * 23);
        due(x.count(7), 24);
        due(x.turn(0, 0), 40);
        due(x.turn(23, 0), 72 * 23 + 40);
        x.take(72);
        due(x.turn(0, 0), NO_SUCH);
        due(x.turn(1, 0), 72 + 40);
        due(x.turn(24, 0), 72 * 24 + 40);
        due(x.turn(25, 0), NO_SUCH);
        x.take(72 * 24);
        for (int k = 25; k <= 48; k++) {
            due(x.turn(k, 0), 72 * k + 40);
            due(x.turn(k, 1), k % 2 == 0 ? HUNT : NEAR);
            due(x.turn(k, 2), k % 2 == 0 ? NEAR : HUNT);
        }
        due(x.turn(24, 0), NO_SUCH);
        x.fresh();
        due(x.turn(48, 0), NO_SUCH);
        due(x.turn(0, 0), NO_SUCH);
    }

    @Says("A TURN: STATE becomes another one: behind which bit (AT then), from, to; the latest 24 are kept, numbered likewise.")
    void turnBehindTheEmptiedLine() {
        Finder x = sent(2);
        x.take(72 + 39);
        x.empty();
        lastOfHeader(x, 101, 1);
        due(x.take(1), SURE);
        due(x.turn(0, 0), 40);
        due(x.turn(1, 0), 1);
        due(x.turn(1, 1), NEAR);
        due(x.turn(1, 2), SURE);
        due(x.judged(0, 0), -39);
    }

    @Says("JUDGED: each CHECK in NEAR, SURE: its place (as of a DELIVERED one), its SYNDROME, VERDICT: 0 SYNDROME 0, 1 MENDED, "
        + "2 DROPPED, 3 HUNT; the latest 32 are kept, numbered likewise.")
    void thirtytwoJudgedAreKept() {
        Finder x = resting(64);
        x.bits(32, 0);
        x.take(40);
        due(x.count(8), 0);
        due(x.judged(0, 0), NO_SUCH);
        x.take(72 * 32);
        due(x.count(8), 32);
        due(x.judged(0, 0), 72);
        due(x.judged(31, 0), 72 * 32);
        due(x.judged(32, 0), NO_SUCH);
        x.take(71);
        due(x.judged(0, 0), 72);
        x.take(1);
        due(x.judged(0, 0), NO_SUCH);
        due(x.judged(1, 0), 72 * 2);
        due(x.judged(32, 0), 72 * 33);
        x.take(72 * 30);
        for (int k = 31; k <= 62; k++) {
            due(x.judged(k, 0), 72 * (k + 1));
        }
        due(x.judged(30, 0), NO_SUCH);
        due(x.judged(63, 0), NO_SUCH);
        x.fresh();
        due(x.judged(62, 0), NO_SUCH);
        due(x.judged(0, 0), NO_SUCH);
    }

    @Says("JUDGED: each CHECK in NEAR, SURE: its place (as of a DELIVERED one), its SYNDROME, VERDICT: 0 SYNDROME 0, 1 MENDED, "
        + "2 DROPPED, 3 HUNT; the latest 32 are kept, numbered likewise.")
    void eachVerdict() {
        Finder x = behind(y -> plain(y, 8));
        x.terms(1, 3);
        flipAll(x, 72 * 2 + 5, 72 * 3 + 6, 72 * 4 + 39);
        x.take(9600);
        int[] verdicts = {0, 1, 2, 3, 0, 0};
        int[] syndromes = {0, NaiveFinder.made(5), NaiveFinder.made(6), 1, 0, 0};
        // from HUNT on the cell at 360 is found, that at 432 is JUDGED
        int[] places = {72, 144, 216, 288, 432, 504};
        due(x.count(8), 6);
        for (int k = 0; k < 6; k++) {
            due(x.judged(k, 0), places[k]);
            due(x.judged(k, 1), syndromes[k]);
            due(x.judged(k, 2), verdicts[k]);
        }
    }

    @Says("FOUND of a DELIVERED one: the first of SENT of like HEADER and LOAD.")
    void foundIsTheFirstOfLikeOnes() {
        Finder x = behind(Edges::small);
        x.send(9, 1);
        x.send(5, 5);
        x.send(5, 6);
        x.send(6, 5);
        x.send(5, 5);
        x.send(6, 5);
        x.take(9600);
        int[] found = {1, 2, 3, 1, 3};
        for (int k = 0; k < found.length; k++) {
            due(x.delivered(k, 3), found[k]);
        }
        // the first and the last bit of the LOAD make it another one, so does the first bit of HEADER
        for (int bit : new int[] {40, 71}) {
            Finder y = sent(2);
            y.flip(72 + bit);
            y.take(9600);
            due(y.delivered(0, 3), NONE);
            due(y.count(9), 1);
        }
        Finder z = behind(Edges::small);
        z.send(LEAST + 9, 0);
        z.send(9, 0);
        z.take(9600);
        due(z.delivered(0, 3), 1);
    }

    @Says("It is STRANGE, if as it is DELIVERED there is none such.")
    void strangeAsItIsDelivered() {
        Finder x = sent(2);
        long load = numberAt(x, 112, 32);
        x.take(112);
        x.empty();
        x.bits(32, (int) load);
        x.take(31);
        due(x.count(9), 0);
        x.take(1);
        due(x.count(9), 1);
        due(x.delivered(0, 3), NONE);
        // SENT behind it it is FOUND, but was STRANGE
        x.send(101, 1);
        due(x.delivered(0, 3), 0);
        due(x.count(9), 1);
        // FOUND as it is DELIVERED and none such later: it wasn't STRANGE
        Finder y = sent(2);
        y.take(144);
        due(y.delivered(0, 3), 1);
        y.empty();
        due(y.delivered(0, 3), NONE);
        due(y.count(9), 0);
        // what was SENT ahead of the last LOAD bit counts
        Finder z = sent(2);
        z.take(112);
        z.empty();
        z.bits(32, (int) load);
        z.take(31);
        z.send(101, 1);
        z.take(1);
        due(z.count(9), 0);
    }

    @Says("It is FRESH: STATE HUNT, nothing taken (AT stays), nothing DELIVERED, no TURNS, all counts 0.")
    void freshAsAtFirst() {
        Finder x = behind(Edges::busy);
        int at = x.told(1);
        int bits = x.told(0);
        x.fresh();
        for (int what = 0; what <= 10; what++) {
            due(x.state(what), what == 7 ? NONE : 0);
        }
        for (int what = 0; what <= 13; what++) {
            due(x.count(what), 0);
        }
        for (int k = -1; k <= 6; k++) {
            due(x.delivered(k, 0), NO_SUCH);
            due(x.load(k, 0), NO_SUCH);
            due(x.field(k, 0), NO_SUCH);
            due(x.turn(k, 0), NO_SUCH);
            due(x.judged(k, 0), NO_SUCH);
        }
        for (int i = 0; i < 43; i++) {
            due(x.stage(1, i), 0);
        }
        due(x.told(1), at);
        due(x.told(0), bits);
        due(x.told(2), 12);
        due(x.lost(), 12);
        due(x.told(11), 3);
        // what was begun of a cell is let go: it hunts for the next header
        due(x.until(NEAR), 72 * 7 + 40 - at);
        x.take(9600);
        due(x.delivered(0, 0), 108);
        due(x.turn(0, 0), 72 * 7 + 40);
    }

    @Says("It is FRESH: STATE HUNT, nothing taken (AT stays), nothing DELIVERED, no TURNS, all counts 0.")
    void freshAtEachMoment() {
        // in HUNT, in NEAR, within a GOOD cell, SEEING with WRONG 1 and 2, lost again
        Run run = x -> {
            plain(x, 7);
            x.terms(1, 3);
            flipAll(x, 72 * 2 + 1, 72 * 3 + 1, 72 * 4 + 1);
        };
        for (int at = 0; at <= 72 * 7; at++) {
            Finder x = behind(run);
            if (at > 0) {
                x.take(at);
            }
            int had = x.count(3);
            due(x.fresh(), had);
            for (int what = 0; what <= 10; what++) {
                due(x.state(what), what == 7 ? NONE : 0);
            }
            for (int what = 0; what <= 13; what++) {
                due(x.count(what), 0);
            }
            due(x.told(1), at);
            // it goes on as a new one would with the bits that are left
            Finder y = behind(run);
            if (at > 0) {
                for (int left = at; left > 0; left -= 400) {
                    y.drop(0, Math.min(left, 400));
                }
            }
            due(x.take(9600), y.take(9600));
            for (int what = 0; what <= 10; what++) {
                due(x.state(what), y.state(what));
            }
            for (int what = 0; what <= 13; what++) {
                due(x.count(what), y.count(what));
            }
        }
    }
}
