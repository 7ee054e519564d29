/** The edges of part 1 of the terms: the line, cells and their checks, the sender, the terms. */
final class TermsEdges extends Edges {
    @Says("An object is used for at most 512 calls after it has been made; what later calls answer is free.")
    void cellsUpToTheLastCall() {
        Finder x = new Finder();
        x.terms(0, 4);
        x.terms(2, 1);
        for (int i = 0; i < 82; i++) {
            x.empty();
            x.rest(20);
            x.rest(20);
            x.rest(20);
            x.rest(4);
            x.take(9600);
        }
        // the first check of all is found in HUNT, it isn't judged
        int judged = 82 * 64 - 1;
        due(x.count(8), judged);
        due(x.count(3), judged);
        due(x.count(13), 82 * 64 * 72 - 112);
        due(x.state(8), 82 * 64 * 72);
        due(x.state(10), 82 * 64 * 72 - 111);
        due(x.delivered(judged - 13, 2), NO_SUCH);
        due(x.delivered(judged - 12, 2), 52 * 72);
        due(x.load(judged - 1, 3), 106);
        due(x.judged(judged - 33, 0), NO_SUCH);
        due(x.judged(judged - 32, 0), 32 * 72);
        due(x.judged(judged, 0), NO_SUCH);
        due(x.turn(1, 0), 112);
        due(x.fresh(), judged);
        due(x.rest(1), TOO_MANY);
        due(x.empty(), 64 * 72);
        due(x.rest(2), 2);
        due(x.take(9600), SURE);
        due(x.delivered(0, 2), 72);
        due(x.callsLeft(), 0);
    }

    @Says("An object is used for at most 512 calls after it has been made; what later calls answer is free.")
    void turnsUpToTheLastCall() {
        // each second header is wrong: NEAR, HUNT, NEAR, HUNT ..
        Finder x = new Finder();
        x.terms(0, 4);
        x.terms(2, 2);
        for (int round = 0; round < 38; round++) {
            x.empty();
            x.rest(20);
            for (int i = 1; i < 20; i += 2) {
                x.flip(72 * i + 2);
            }
            x.take(9600);
        }
        int turns = 38 * 20;
        due(x.count(7), turns);
        due(x.turn(turns - 25, 0), NO_SUCH);
        due(x.turn(turns - 24, 0), 72 * 16 + 40);
        due(x.turn(turns - 24, 2), NEAR);
        due(x.turn(turns - 1, 0), 72 * 19 + 40);
        due(x.turn(turns - 1, 2), HUNT);
        due(x.turn(turns, 0), NO_SUCH);
        due(x.judged(turns / 2 - 32, 2), 3);
        due(x.judged(turns / 2 - 33, 2), NO_SUCH);
        due(x.count(6), 38 * (40 + 9 * 72 + 32));
        due(x.count(12), 38 * 10 * 72);
    }

    @Says("An object is used for at most 512 calls after it has been made; what later calls answer is free.")
    void bitsUpToTheLastCall() {
        Finder x = new Finder();
        for (int round = 0; round < 8; round++) {
            fill(x);
            due(x.take(9600), HUNT);
            due(x.empty(), 9600);
        }
        due(x.state(8), 8 * 9600);
        due(x.state(10), 8 * 9600);
        due(x.count(6), 8 * 9600);
        due(x.count(11), 1);
        Finder y = new Finder();
        for (int i = 0; i < 511; i++) {
            due(y.take(0), CANNOT_BE);
        }
        due(y.bits(3, 5), 3);
        due(y.callsLeft(), 0);
    }

    @Says("THE LINE: bits, 9,600 at most, numbered from 0 on (none at first);")
    void lineHasNoneAtFirst() {
        Finder x = new Finder();
        due(x.told(0), 0);
        due(x.bit(0), NONE);
        due(x.empty(), 0);
        due(x.bits(1, 1), 1);
        due(x.bit(0), 1);
        due(x.bit(1), NONE);
        due(x.bit(-1), NONE);
    }

    @Says("THE LINE: bits, 9,600 at most, numbered from 0 on (none at first);")
    void lineIsFull() {
        Finder x = full();
        due(x.told(0), 9600);
        due(x.flip(9599), 1);
        due(x.bit(9599), 1);
        due(x.bit(9600), NONE);
        due(x.flip(9600), NO_SUCH);
        refused(TOO_MANY, Edges::fill, y -> y.bits(1, 1));
        refused(TOO_MANY, Edges::fill, y -> y.slip(9600, 1, 1));
        refused(TOO_MANY, Edges::fill, y -> y.slip(0, 1, 1));
        refused(TOO_MANY, Edges::fill, y -> y.feed(1, 2, 3, 4, 5));
        refused(TOO_MANY, Edges::fill, y -> y.send(1, 1));
        refused(TOO_MANY, Edges::fill, y -> y.rest(1));
    }

    @Says("THE LINE: bits, 9,600 at most, numbered from 0 on (none at first);")
    void lineBecomesFull() {
        Run oneLess = x -> zeros(x, 9599);
        due(behind(oneLess).bits(1, 1), 9600);
        refused(TOO_MANY, oneLess, x -> x.bits(2, 3));
        refused(TOO_MANY, oneLess, x -> x.slip(9599, 2, 3));
        Finder x = behind(oneLess);
        x.flip(9598);
        due(x.slip(9598, 1, 0), 9600);
        due(x.bit(9598), 0);
        due(x.bit(9599), 1);
        due(x.drop(9599, 1), 9599);
        due(x.bits(1, 0), 9600);
        due(x.bit(9599), 0);
    }

    @Says("AT: how many of these the RECEIVER has taken.")
    void atGoesFromNoneToAll() {
        Finder x = full();
        due(x.told(1), 0);
        x.take(1);
        due(x.told(1), 1);
        x.take(9598);
        due(x.told(1), 9599);
        x.take(1);
        due(x.told(1), 9600);
        x.take(1);
        due(x.told(1), 9600);
        due(x.state(8), 9600);
        Finder y = new Finder();
        y.take(5);
        due(y.told(1), 0);
        y.bits(3, 0);
        y.take(5);
        due(y.told(1), 3);
        y.bits(3, 0);
        due(y.told(1), 3);
        y.take(1);
        due(y.told(1), 4);
    }

    @Says("A CELL: HEADER of 32 bits, CHECK of 8, LOAD of so many bytes (TERM 0).")
    void cellOfFewestAndOfMostBytes() {
        Finder x = behind(y -> y.terms(0, 4));
        x.rest(1);
        due(x.told(0), 72);
        due(numberAt(x, 0, 32), 1);
        due(numberAt(x, 32, 8), 82);
        due(numberAt(x, 40, 32), 0x6A6A6A6AL);
        Finder z = new Finder();
        z.rest(1);
        due(z.told(0), 424);
        due(numberAt(z, 0, 32), 1);
        due(numberAt(z, 32, 8), 82);
        due(numberAt(z, 40, 32), 0x6A6A6A6AL);
    }

    @Says("Of all the highest bit comes first.")
    void highestBitFirst() {
        Finder x = new Finder();
        x.feed(LEAST, 1, 0, 0, 0);
        due(x.bit(0), 1);
        due(numberAt(x, 1, 62), 0);
        due(x.bit(63), 1);
        Finder y = new Finder();
        y.send(LEAST, 5);
        due(y.bit(0), 1);
        due(numberAt(y, 1, 31), 0);
        due(numberAt(y, 32, 8), y.check(LEAST));
        due(numberAt(y, 40, 8), 196);
        Finder z = new Finder();
        z.send(1, 5);
        due(z.bit(0), 0);
        due(z.bit(31), 1);
    }

    @Says("CHECK: the rest of HEADER (as a polynomial over two, the first bit the highest) times x to the 8th by "
        + "x to the 8th, x squared, x and 1, and its bits unlike those of 85 (01010101).")
    void checkOfFirstAndLastBit() {
        Finder x = new Finder();
        due(x.check(0), 0b01010101);
        // x to the 8th leaves x squared, x and 1; up to x to the 13th nothing falls over
        due(x.check(1), 0b00000111 ^ 85);
        due(x.check(32), 0b11100000 ^ 85);
        // by x to the 14th it does
        due(x.check(64), (448 ^ 263) ^ 85);
        // the first bit of all, by long division
        due(x.check(LEAST), 49 ^ 85);
        due(x.check(LEAST), NaiveFinder.restOf(1L << 39) ^ 85);
        due(x.check(-1), NaiveFinder.restOf(0xFFFFFFFFL << 8) ^ 85);
        due(x.check(GREATEST), NaiveFinder.restOf(0x7FFFFFFFL << 8) ^ 85);
    }

    @Says("SYNDROME of 40 bits: CHECK of the first 32 of these, its bits unlike the last 8 (0: they look right).")
    void syndromeOfFortyBits() {
        Finder x = new Finder();
        due(x.syndrome(0, 85), 0);
        due(x.syndrome(0, 84), 1);
        due(x.syndrome(0, 85 ^ 128), 128);
        due(x.syndrome(0, 85 ^ 255), 255);
        due(x.syndrome(LEAST, 85), 49);
        // 40 bits of the line look right with SYNDROME 0 alone
        Finder y = behind(z -> {
            zeros(z, 32);
            z.bits(8, 85);
        });
        due(y.rights(0, 1, NONE), 1);
        for (int i : new int[] {0, 31, 32, 39}) {
            y.flip(i);
            due(y.rights(0, 1, NONE), 0);
            y.flip(i);
        }
        due(y.rights(0, 1, NONE), 1);
    }

    @Says("\"Unlike\": 1 where both are not alike.")
    void unlikeIsOneWhereBothDiffer() {
        Finder x = new Finder();
        due(x.syndrome(0, 0b01010101), 0);
        due(x.syndrome(0, 0b10101010), 255);
        due(x.syndrome(0, 0b00001111), 0b01011010);
        // the bit that comes and the one of 43 bits ago: both 0, both 1, and one of each
        for (int i = 0; i < 4; i++) {
            Finder y = sent(2);
            int comes = i & 1;
            if (y.bit(112) != comes) {
                y.flip(112);
            }
            y.take(112);
            y.stages(0, i / 2 == 1 ? LEAST : 0);
            y.take(32);
            due(y.load(0, 0) >> 7, i == 1 || i == 2 ? 1 : 0);
        }
    }

    @Says("The SENDER SCRAMBLES bits of LOAD: what it puts on THE LINE is unlike what it put there as LOAD 43 bits of "
        + "LOAD ago (0 ahead of all).")
    void senderScramblesFromTheFortyfourthBit() {
        Finder x = behind(y -> y.terms(0, 6));
        x.rest(2);
        int[] put = new int[96];
        for (int i = 0; i < 96; i++) {
            put[i] = x.bit(i < 48 ? 40 + i : 80 + i);
        }
        for (int i = 0; i < 96; i++) {
            int plain = 106 >> (7 - i % 8) & 1;
            due(put[i], i < 43 ? plain : plain ^ put[i - 43]);
        }
        // bits 42 and 44 are both 1 as they are, bit 1 is 1
        due(put[42], 1);
        due(put[44], 0);
    }

    @Says("The SENDER SCRAMBLES bits of LOAD: what it puts on THE LINE is unlike what it put there as LOAD 43 bits of "
        + "LOAD ago (0 ahead of all).")
    void senderKnowsWhatItPutNotWhatBecameOfIt() {
        Finder x = sent(1);
        Finder y = sent(1);
        y.disturb(40, 32, 1, 0);
        y.bits(32, 12345);
        y.flip(80);
        x.send(9, 9);
        y.send(9, 9);
        due(numberAt(y, 72 + 32 + 40, 32), numberAt(x, 72 + 40, 32));
        // emptied, 0 is ahead of all again
        Finder z = sent(3);
        z.empty();
        z.send(100, 0);
        due(numberAt(z, 40, 32), numberAt(sent(1), 40, 32));
    }

    @Says("SENT: HEADER and LOAD of all CELLS that it sent, 64 at most, from 0 on.")
    void sentIsFull() {
        Finder x = behind(Edges::small);
        due(x.told(2), 0);
        due(x.send(5, 5), 0);
        due(x.send(5, 5), 1);
        Finder y = sent(63);
        due(y.told(2), 63);
        due(y.send(163, 63), 63);
        due(y.told(2), 64);
        due(y.take(9600), SURE);
        due(y.delivered(62, 3), 63);
        Run all = z -> sending(z, 64);
        refused(TOO_MANY, all, z -> z.send(1, 1));
        refused(TOO_MANY, all, z -> z.rest(1));
        Run oneLess = z -> sending(z, 63);
        refused(TOO_MANY, oneLess, z -> z.rest(2));
        due(behind(oneLess).rest(1), 64);
        // the line has room, and has it still when it is emptied
        Finder v = sent(64);
        due(v.bits(32, 0), 64 * 72 + 32);
        v.empty();
        due(v.send(1, 1), 0);
    }

    @Says("A LOAD by a SEED (0 to 1,000,003): s is the SEED at first; for each byte s becomes (s times 1,103 and "
        + "12,345) modulo 1,000,003, the byte is s modulo 256.")
    void leastAndGreatestSeed() {
        Run small = Edges::small;
        refused(CANNOT_BE, small, x -> x.send(1, -1));
        refused(CANNOT_BE, small, x -> x.send(1, 1000004));
        refused(CANNOT_BE, small, x -> x.send(1, LEAST));
        refused(CANNOT_BE, small, x -> x.send(1, GREATEST));
        int[] seeds = {0, 1, 1000002, 1000003};
        int[] first = {12345, 13448, 11242, 12345};
        for (int i = 0; i < seeds.length; i++) {
            Finder x = behind(small);
            due(x.send(1, seeds[i]), 0);
            due(numberAt(x, 40, 8), first[i] % 256);
            due(numberAt(x, 48, 8), ((first[i] * 1103L + 12345) % 1000003) % 256);
        }
        Finder y = new Finder();
        y.send(1, 1000002);
        y.send(1, 1000002);
        y.terms(2, 1);
        y.take(9600);
        long s = 1000002;
        for (int i = 0; i < 48; i++) {
            s = (s * 1103 + 12345) % 1000003;
            due(y.load(0, i), s % 256);
        }
    }

    /** The least and the greatest value are taken, what is beyond them is refused. */
    private void term(int what, int least, int greatest, int first) {
        Run atFirst = x -> x.bits(1, 0);
        due(behind(atFirst).told(10 + what), first);
        refused(CANNOT_BE, atFirst, x -> x.terms(what, least - 1));
        refused(CANNOT_BE, atFirst, x -> x.terms(what, greatest + 1));
        refused(CANNOT_BE, atFirst, x -> x.terms(what, LEAST));
        refused(CANNOT_BE, atFirst, x -> x.terms(what, GREATEST));
        Finder x = behind(atFirst);
        due(x.terms(what, least), first);
        due(x.told(10 + what), least);
        due(x.terms(what, greatest), least);
        due(x.told(10 + what), greatest);
        due(x.terms(what, first), greatest);
        due(x.terms(what, greatest + 1), CANNOT_BE);
        due(x.told(10 + what), first);
    }

    @Says({"TERMS (least to greatest; at first): 0 LOAD 4 to 48 bytes (48),"})
    void termLoad() {
        term(0, 4, 48, 48);
    }

    @Says({"1 ALPHA 1 to 15 (7),"})
    void termAlpha() {
        term(1, 1, 15, 7);
    }

    @Says({"2 DELTA 1 to 15 (6),"})
    void termDelta() {
        term(2, 1, 15, 6);
    }

    @Says({"3 MENDS 0, 1 (1),"})
    void termMends() {
        term(3, 0, 1, 1);
    }

    @Says({"4 PATIENCE 40 to 4,000 (800),"})
    void termPatience() {
        term(4, 40, 4000, 800);
    }

    @Says({"5 IDLES 0, 1 (0),"})
    void termIdles() {
        term(5, 0, 1, 0);
    }

    @Says({"6 STEP 1 to 8 (1)."})
    void termStep() {
        term(6, 1, 8, 1);
    }
}
