/** The edges of promises 13 to 24: the receiver. */
final class ReceiverEdges extends Edges {
    @Says(promise = 13, value = {"It takes n bits (1 to 9,600), or as many as there are: STATE.", "-3."})
    void takeFewestAndMost() {
        for (int n : new int[] {0, -1, 9601, LEAST, GREATEST}) {
            refused(CANNOT_BE, Edges::busy, x -> x.take(n));
            refused(CANNOT_BE, x -> { }, x -> x.take(n));
        }
        Finder x = full();
        due(x.take(9600), HUNT);
        due(x.told(1), 9600);
        due(x.state(8), 9600);
        // fewer are there
        Finder y = sent(2);
        due(y.take(9600), SURE);
        due(y.told(1), 144);
        due(y.state(8), 144);
        due(y.take(1), SURE);
        due(y.told(1), 144);
        due(y.state(8), 144);
        due(y.state(10), 33);
        Finder z = sent(2);
        due(z.take(143), SURE);
        due(z.told(1), 143);
        due(z.take(2), SURE);
        due(z.told(1), 144);
        // none are there
        Finder v = new Finder();
        due(v.take(1), HUNT);
        due(v.state(8), 0);
        due(v.state(10), 0);
        due(v.count(6), 0);
    }

    @Says(promise = 13, value = {"It takes n bits (1 to 9,600), or as many as there are: STATE."})
    void takeOneByOne() {
        Run run = x -> {
            plain(x, 6);
            x.terms(1, 1);
            flipAll(x, 72 * 2 + 5, 72 * 4 + 5, 72 * 4 + 6);
        };
        Finder x = behind(run);
        for (int i = 1; i <= 432; i++) {
            due(x.take(1), behind(run).take(i));
        }
        Finder y = behind(run);
        y.take(432);
        for (int what = 0; what <= 10; what++) {
            due(x.state(what), y.state(what));
        }
        for (int what = 0; what <= 13; what++) {
            due(x.count(what), y.count(what));
        }
    }

    @Says(promise = 14, value = "It is FRESH: how many it had DELIVERED.")
    void freshTellsAllThatWereDelivered() {
        due(new Finder().fresh(), 0);
        Finder x = sent(30);
        x.take(9600);
        // more than the 12 that are kept
        due(x.fresh(), 29);
        due(x.fresh(), 0);
        Finder y = sent(2);
        y.take(143);
        due(y.fresh(), 0);
        Finder z = sent(2);
        z.take(144);
        due(z.fresh(), 1);
        // IDLE ones were not DELIVERED
        Finder v = resting(5);
        v.terms(5, 1);
        v.take(9600);
        due(v.count(10), 4);
        due(v.fresh(), 0);
        // what was begun is let go
        Finder w = sent(3);
        w.take(120);
        w.fresh();
        w.take(9600);
        due(w.count(3), 0);
        due(w.state(0), NEAR);
        due(w.turn(0, 0), 72 * 2 + 40);
    }

    @Says(promise = 15, value = {"Bit i (0 to 42; 0 the latest) of the 43 LOAD bits behind which who SCRAMBLES (0 the SENDER) or DESCRAMBLES "
        + "(1 THE RECEIVER) the next one: of 42 it will be unlike.", "-2."})
    void stageFirstAndLast() {
        Finder x = sent(2);
        x.take(9600);
        for (int who = 0; who < 2; who++) {
            // the latest 32 are the load of cell 1, the 11 ahead of these the last of cell 0
            due(x.stage(who, 0), x.bit(143));
            due(x.stage(who, 31), x.bit(112));
            due(x.stage(who, 32), x.bit(71));
            due(x.stage(who, 42), x.bit(61));
        }
        for (int[] wrong : new int[][] {{-1, 0}, {2, 0}, {LEAST, 0}, {GREATEST, 0}, {0, -1}, {0, 43}, {1, -1}, {1, 43}, {1, LEAST},
            {1, GREATEST}, {2, 43}}) {
            refused(NO_SUCH, Edges::busy, y -> y.stage(wrong[0], wrong[1]));
        }
        // 42 LOAD bits: the first of them isn't yet at 42, with one more it is
        Finder y = behind(z -> {
            plain(z, 2);
            z.flip(40);
            z.take(72 + 40 + 10);
        });
        due(y.stage(1, 41), 1);
        due(y.stage(1, 42), 0);
        y.take(1);
        due(y.stage(1, 42), 1);
        y.take(1);
        due(y.stage(1, 42), 0);
    }

    @Says(promise = 15, value = "of 42 it will be unlike.")
    void theNextIsUnlikeTheOldest() {
        for (int seed = 0; seed < 8; seed++) {
            Finder x = sent(2);
            int oldest = x.stage(0, 42);
            x.send(5, seed);
            int plain = (seed * 1103 + 12345) % 256 >> 7;
            due(x.bit(144 + 40), plain ^ oldest);
            x.take(72 * 2 + 40);
            due(x.stage(1, 42), oldest);
            x.take(32);
            due(x.load(1, 0) >> 7, plain);
        }
    }

    @Says(promise = 16, value = {"THE RECEIVER's 43 bits become: the latest 11 the lowest 11 of a (the latest the lowest), those ahead of these "
        + "the 32 of b (likewise): how many of them are 1.", "-3: a isn't 0 to 2,047."})
    void stagesLeastAndGreatest() {
        Finder x = sent(2);
        due(x.stages(0, 0), 0);
        due(x.stages(2047, -1), 43);
        due(x.stages(2047, 0), 11);
        due(x.stages(0, -1), 32);
        for (int i = 0; i < 43; i++) {
            due(i < 11 ? x.stages(1 << i, 0) : x.stages(0, 1 << (i - 11)), 1);
            for (int j = Math.max(0, i - 1); j <= Math.min(42, i + 1); j++) {
                due(x.stage(1, j), i == j ? 1 : 0);
            }
            due(x.stage(0, 0), x.bit(143));
        }
        for (int a : new int[] {-1, 2048, LEAST, GREATEST}) {
            refused(CANNOT_BE, Edges::busy, y -> y.stages(a, -1));
            refused(CANNOT_BE, y -> y.stages(5, 9), y -> y.stages(a, 0));
        }
        // by FRESH they are 0, by emptying the line they stay
        x.stages(2047, -1);
        x.empty();
        due(x.stage(1, 42), 1);
        x.fresh();
        due(x.stage(1, 42), 0);
        due(x.stage(1, 0), 0);
    }

    @Says(promise = 16, value = "THE RECEIVER's 43 bits become: the latest 11 the lowest 11 of a (the latest the lowest), those ahead of these "
        + "the 32 of b (likewise): how many of them are 1.")
    void stagesDescrambleWhatComes() {
        // the 32 bits of the next LOAD are unlike the 32 of b, the highest first; 11 of the one behind unlike those of a
        Finder x = behind(y -> plain(y, 4));
        x.take(112);
        x.stages(0b10110011101, 0x9ABCDEF1);
        x.take(104);
        due((long) x.load(0, 0) << 24 | x.load(0, 1) << 16 | x.load(0, 2) << 8 | x.load(0, 3), 0x9ABCDEF1L);
        due(x.load(1, 0) << 3 | x.load(1, 1) >> 5, 0b10110011101);
        due(x.load(1, 1) & 31, 0);
        // in the midst of a LOAD: from the next bit on
        Finder z = behind(y -> plain(y, 4));
        z.take(112 + 31);
        z.stages(0, LEAST);
        z.take(1);
        due(z.load(0, 2), 0);
        due(z.load(0, 3), 1);
    }

    @Says(promise = 17, value = {"0 STATE, 1 RIGHT, 2 WRONG, 3 MODE (1 MENDING, 0 SEEING; all three as they were told last, 0 as long as it is "
        + "FRESH),"})
    void stateAsToldLast() {
        Finder x = behind(y -> plain(y, 12));
        x.terms(2, 2);
        x.terms(1, 2);
        flipAll(x, 72 * 3 + 1, 72 * 4 + 1);
        int[][] told = {
            {0, 0, 0, 0}, {1, 0, 0, 0}, {1, 1, 0, 0}, {2, 2, 0, 1}, {2, 2, 1, 0}, {0, 2, 2, 0}, {1, 0, 2, 0}, {1, 1, 2, 0},
            {2, 2, 0, 1}};
        for (int i = 0; i < told.length; i++) {
            for (int what = 0; what <= 3; what++) {
                due(x.state(what), told[i][what]);
            }
            x.take(i == 0 ? 40 : 71);
            if (i > 0) {
                for (int what = 0; what <= 3; what++) {
                    due(x.state(what), told[i][what]);
                }
                x.take(1);
            }
        }
        x.fresh();
        for (int what = 0; what <= 3; what++) {
            due(x.state(what), 0);
        }
    }

    @Says(promise = 17, value = {"0 STATE, 1 RIGHT, 2 WRONG, 3 MODE (1 MENDING, 0 SEEING; all three as they were told last, 0 as long as it is "
        + "FRESH),"})
    void modeStaysByHunt() {
        // MENDING as it is lost by the first wrong one
        Finder x = behind(y -> plain(y, 6));
        x.terms(1, 1);
        x.flip(72 * 2 + 1);
        due(x.take(72 * 2 + 40), HUNT);
        due(x.state(3), 1);
        due(x.take(72), NEAR);
        due(x.state(3), 1);
        due(x.state(2), 1);
        due(x.take(72), SURE);
        due(x.state(3), 1);
        due(x.state(2), 0);
    }

    @Says(promise = 17, value = {"4 how many bits of LOAD (in HEADER and CHECK: 0) it took of the CELL, 5 how many of HEADER and CHECK (in LOAD, "
        + "in HUNT: 0), 6 1 if the CELL of which LOAD is taken is GOOD (else 0),", "(4 to 6 in HUNT: 0.)"})
    void stateWithinACell() {
        Finder x = behind(y -> plain(y, 4));
        for (int at = 0; at < 72 * 2 + 40; at++) {
            if (x.callsLeft() < 8) {
                int taken = at;
                x = behind(y -> {
                    plain(y, 4);
                    y.take(taken);
                });
            }
            int spot = (at + 32) % 72;
            boolean hunts = at < 40;
            due(x.state(4), hunts || spot >= 32 ? 0 : spot);
            due(x.state(5), hunts || spot < 32 ? 0 : spot - 32);
            due(x.state(6), at >= 112 && spot < 32 ? 1 : 0);
            x.take(1);
        }
        // lost again: 0, whatever stood there
        Finder y = behind(z -> plain(z, 4));
        y.terms(1, 1);
        y.flip(72 * 2 + 1);
        y.take(72 * 2 + 39);
        due(y.state(5), 39);
        for (int i = 0; i < 5; i++) {
            y.take(1);
            due(y.state(4), 0);
            due(y.state(5), 0);
            due(y.state(6), 0);
        }
    }

    @Says(promise = 17, value = "6 1 if the CELL of which LOAD is taken is GOOD (else 0),")
    void goodWhileItsLoadIsTaken() {
        Finder x = behind(y -> plain(y, 9));
        x.terms(1, 9);
        flipAll(x, 72 * 2 + 1, 72 * 3 + 1, 72 * 3 + 2);
        x.take(72 * 2 + 39);
        due(x.state(6), 0);
        x.take(1);
        due(x.state(6), 1);
        x.take(31);
        due(x.state(6), 1);
        x.take(1);
        due(x.state(6), 0);
        x.take(40);
        due(x.state(6), 0);
        x.take(72);
        due(x.state(6), 1);
        // an IDLE one is GOOD, too
        Finder y = resting(3);
        y.terms(5, 1);
        y.take(112);
        due(y.state(6), 1);
    }

    @Says(promise = 17, value = {"7 SYNDROME of LAST (NONE: not 40 yet),", "8 how many bits it took since it was FRESH, 9 1 if ALARM is UP, else 0, "
        + "10 STILL."})
    void stateOfWhatWasTaken() {
        Finder x = behind(y -> plain(y, 4));
        for (int i = 0; i <= 90; i++) {
            due(x.state(7) == NONE ? 1 : 0, i < 40 ? 1 : 0);
            due(x.state(8), i);
            due(x.state(9), i >= 40 ? 1 : 0);
            due(x.state(10), i);
            x.take(1);
        }
        due(x.fresh(), 0);
        due(x.state(7), NONE);
        for (int what = 8; what <= 10; what++) {
            due(x.state(what), 0);
        }
        due(x.told(1), 91);
        // SYNDROME of LAST wherever it stands, in a LOAD too: header and check at 40, 16 bits of them went at 56
        Finder y = behind(z -> plain(z, 4));
        y.take(40);
        due(y.state(7), 0);
        y.take(32);
        due(y.state(7), y.syndrome(0b01010101 << 24, 0));
    }

    @Says(promise = 17, value = "-2: another what.")
    void anotherState() {
        for (int what : new int[] {-1, 11, LEAST, GREATEST}) {
            refused(NO_SUCH, Edges::busy, x -> x.state(what));
        }
        for (int i = 0; i <= 10; i++) {
            int what = i;
            unchanged(Edges::busy, x -> x.state(what));
        }
    }

    @Says(promise = 18, value = {"Counts since it was FRESH: 0 CHECKS that looked right in NEAR and SURE, 1 MENDED, 2 DROPPED, 3 DELIVERED, 4 how "
        + "often it became SURE, 5 how often it left SURE, 6 bits taken in HUNT (the one by which it left it, too), 7 TURNS, 8 JUDGED, "
        + "9 STRANGE, 10 IDLE, 11 how often ALARM came UP, 12, 13 bits taken in NEAR, in SURE (the one by which it left it, too)."})
    void eachCountByOneBit() {
        Finder x = behind(y -> plain(y, 9));
        x.terms(1, 3);
        flipAll(x, 72 * 2 + 1, 72 * 3 + 1, 72 * 4 + 1);
        // what each count is behind the bit at which one changes, and behind the one ahead of it
        int[][] steps = {
            // AT, right, MENDED, DROPPED, DELIVERED, became SURE, left it, in HUNT, TURNS, JUDGED, STRANGE, IDLE, ALARMS, NEAR, SURE
            {39, 0, 0, 0, 0, 0, 0, 39, 0, 0, 0, 0, 0, 0, 0},
            {40, 0, 0, 0, 0, 0, 0, 40, 1, 0, 0, 0, 1, 0, 0},
            {41, 0, 0, 0, 0, 0, 0, 40, 1, 0, 0, 0, 1, 1, 0},
            {111, 0, 0, 0, 0, 0, 0, 40, 1, 0, 0, 0, 1, 71, 0},
            {112, 1, 0, 0, 0, 1, 0, 40, 2, 1, 0, 0, 1, 72, 0},
            {143, 1, 0, 0, 0, 1, 0, 40, 2, 1, 0, 0, 1, 72, 31},
            {144, 1, 0, 0, 1, 1, 0, 40, 2, 1, 1, 0, 1, 72, 32},
            {183, 1, 0, 0, 1, 1, 0, 40, 2, 1, 1, 0, 1, 72, 71},
            {184, 1, 1, 0, 1, 1, 0, 40, 2, 2, 1, 0, 1, 72, 72},
            {216, 1, 1, 0, 2, 1, 0, 40, 2, 2, 2, 0, 1, 72, 104},
            {256, 1, 1, 1, 2, 1, 0, 40, 2, 3, 2, 0, 1, 72, 144},
            {327, 1, 1, 1, 2, 1, 0, 40, 2, 3, 2, 0, 1, 72, 215},
            {328, 1, 1, 1, 2, 1, 1, 40, 3, 4, 2, 0, 1, 72, 216},
            {366, 1, 1, 1, 2, 1, 1, 78, 3, 4, 2, 0, 1, 72, 216},
            {367, 1, 1, 1, 2, 1, 1, 79, 3, 4, 2, 0, 2, 72, 216},
            {400, 1, 1, 1, 2, 1, 1, 112, 4, 4, 2, 0, 2, 72, 216},
            {472, 2, 1, 1, 2, 2, 1, 112, 5, 5, 2, 0, 2, 144, 216},
            {504, 2, 1, 1, 3, 2, 1, 112, 5, 5, 3, 0, 2, 144, 248}};
        for (int[] step : steps) {
            x.take(step[0] - x.told(1));
            for (int what = 0; what <= 13; what++) {
                due(x.count(what), step[what + 1]);
            }
        }
        x.fresh();
        for (int what = 0; what <= 13; what++) {
            due(x.count(what), 0);
        }
    }

    @Says(promise = 18, value = "10 IDLE,")
    void idleByOneBit() {
        Finder x = resting(4);
        x.terms(5, 1);
        x.take(143);
        due(x.count(10), 0);
        x.take(1);
        due(x.count(10), 1);
        due(x.count(3), 0);
        due(x.count(9), 0);
        due(x.count(0), 1);
    }

    @Says(promise = 18, value = "-2: another what.")
    void anotherCount() {
        for (int what : new int[] {-1, 14, LEAST, GREATEST}) {
            refused(NO_SUCH, Edges::busy, x -> x.count(what));
        }
        for (int i = 0; i <= 13; i++) {
            int what = i;
            unchanged(Edges::busy, x -> x.count(what));
        }
    }

    /** 20 cells delivered of 21, the third of them mended: numbers 8 to 19 are kept. */
    private static void twenty(Finder x) {
        sending(x, 21);
        x.flip(72 * 12 + 31);
        x.take(9600);
    }

    @Says(promise = 19, value = {"DELIVERED one k, what 0 HEADER, 1 1 if MENDED, 2 its place, 3 FOUND (NONE).",
        "-2: what, it isn't kept, there is none such."})
    void deliveredFirstAndLastKept() {
        Finder x = behind(ReceiverEdges::twenty);
        for (int k = 8; k < 20; k++) {
            due(x.delivered(k, 0), 101 + k);
            due(x.delivered(k, 1), k == 11 ? 1 : 0);
            due(x.delivered(k, 2), 72 * (k + 1));
            due(x.delivered(k, 3), k + 1);
        }
        for (int[] wrong : new int[][] {{7, 0}, {0, 0}, {20, 0}, {-1, 0}, {LEAST, 0}, {GREATEST, 0}, {8, -1}, {8, 4}, {8, LEAST},
            {8, GREATEST}, {7, 4}}) {
            refused(NO_SUCH, ReceiverEdges::twenty, y -> y.delivered(wrong[0], wrong[1]));
        }
        refused(NO_SUCH, y -> { }, y -> y.delivered(0, 0));
        // FOUND is NONE, not -2, for one that is kept
        Finder y = sent(3);
        y.flip(72 + 40);
        y.take(144);
        due(y.delivered(0, 3), NONE);
        due(y.delivered(1, 3), NO_SUCH);
        unchanged(ReceiverEdges::twenty, z -> z.delivered(8, 3));
    }

    @Says(promise = 20, value = {"Byte i of its LOAD.", "-2: it isn't kept, there is none such;", "NONE: not so many."})
    void loadFirstAndLastByte() {
        Finder x = behind(ReceiverEdges::twenty);
        for (int k : new int[] {8, 19}) {
            long s = k + 1;
            for (int i = 0; i < 4; i++) {
                s = (s * 1103 + 12345) % 1000003;
                due(x.load(k, i), s % 256);
            }
            for (int i : new int[] {4, 47, 48, GREATEST, -1, LEAST}) {
                quiet(NONE, ReceiverEdges::twenty, y -> y.load(k, i));
            }
        }
        for (int k : new int[] {7, 0, 20, -1, LEAST, GREATEST}) {
            refused(NO_SUCH, ReceiverEdges::twenty, y -> y.load(k, 0));
            refused(NO_SUCH, ReceiverEdges::twenty, y -> y.load(k, 4));
        }
        // 48 bytes, the greatest LOAD
        Finder y = behind(z -> {
            z.terms(2, 1);
            z.send(1, 9);
            z.send(2, 10);
            z.take(9600);
        });
        long s = 10;
        for (int i = 0; i < 48; i++) {
            s = (s * 1103 + 12345) % 1000003;
            due(y.load(0, i), s % 256);
        }
        due(y.load(0, 48), NONE);
        due(y.load(1, 0), NO_SUCH);
        // a byte of 255 and one of 0
        Finder v = behind(z -> {
            plain(z, 2);
            z.drop(112, 32);
            z.bits(32, 0xFF00FF80);
            z.take(9600);
        });
        due(v.load(0, 0), 255);
        due(v.load(0, 1), 0);
        due(v.load(0, 3), 128);
    }

    @Says(promise = 21, value = {"Of HEADER of DELIVERED one k, what 0 its first 4 bits, 1 the next 8, 2 the next 16, 3 the next 3, 4 the last one.",
        "-2: what, it isn't kept, there is none such."})
    void fieldFirstAndLastBit() {
        int[] from = {0, 4, 12, 28, 31, 32};
        for (int bit = 0; bit < 32; bit++) {
            Finder x = behind(Edges::small);
            x.send(0, 0);
            x.send(1 << (31 - bit), 0);
            x.send(~(1 << (31 - bit)), 0);
            x.take(9600);
            for (int what = 0; what < 5; what++) {
                int width = from[what + 1] - from[what];
                int one = bit >= from[what] && bit < from[what + 1] ? 1 << (from[what + 1] - 1 - bit) : 0;
                due(x.field(0, what), one);
                due(x.field(1, what), (1 << width) - 1 - one);
            }
        }
        for (int[] wrong : new int[][] {{7, 0}, {0, 0}, {20, 0}, {-1, 0}, {LEAST, 0}, {GREATEST, 0}, {8, -1}, {8, 5}, {8, LEAST},
            {8, GREATEST}}) {
            refused(NO_SUCH, ReceiverEdges::twenty, y -> y.field(wrong[0], wrong[1]));
        }
        due(behind(ReceiverEdges::twenty).field(8, 2), 109 >> 4);
        due(behind(ReceiverEdges::twenty).field(19, 2), 120 >> 4);
        unchanged(ReceiverEdges::twenty, y -> y.field(8, 4));
    }

    @Says(promise = 22, value = {"JUDGED one k, what 0 its place, 1 SYNDROME, 2 VERDICT.", "-2: what, it isn't kept, there is none such."})
    void judgedFirstAndLastKept() {
        Run run = x -> {
            sending(x, 41);
            x.flip(72 * 40 + 39);
            x.take(9600);
        };
        Finder x = behind(run);
        due(x.count(8), 40);
        for (int k = 8; k < 40; k++) {
            due(x.judged(k, 0), 72 * (k + 1));
            due(x.judged(k, 1), k == 39 ? 1 : 0);
            due(x.judged(k, 2), k == 39 ? 1 : 0);
        }
        for (int[] wrong : new int[][] {{7, 0}, {0, 0}, {40, 0}, {-1, 0}, {LEAST, 0}, {GREATEST, 0}, {8, -1}, {8, 3}, {8, LEAST},
            {8, GREATEST}}) {
            refused(NO_SUCH, run, y -> y.judged(wrong[0], wrong[1]));
        }
        refused(NO_SUCH, y -> { }, y -> y.judged(0, 0));
        // behind the bit ahead of the last of CHECK there is none yet
        Finder y = sent(2);
        y.take(111);
        due(y.judged(0, 0), NO_SUCH);
        y.take(1);
        due(y.judged(0, 0), 72);
    }

    @Says(promise = 23, value = {"TURN k, what 0 AT, 1 from, 2 to.", "-2."})
    void turnFirstAndLastKept() {
        Run run = x -> {
            plain(x, 30);
            for (int i = 1; i < 30; i += 2) {
                x.flip(72 * i + 2);
            }
            x.take(9600);
        };
        Finder x = behind(run);
        due(x.count(7), 30);
        for (int k = 6; k < 30; k++) {
            due(x.turn(k, 0), 72 * k + 40);
            due(x.turn(k, 1), k % 2);
            due(x.turn(k, 2), 1 - k % 2);
        }
        for (int[] wrong : new int[][] {{5, 0}, {0, 0}, {30, 0}, {-1, 0}, {LEAST, 0}, {GREATEST, 0}, {6, -1}, {6, 3}, {6, LEAST},
            {6, GREATEST}}) {
            refused(NO_SUCH, run, y -> y.turn(wrong[0], wrong[1]));
        }
        refused(NO_SUCH, y -> { }, y -> y.turn(0, 0));
        // each turn there can be: HUNT to NEAR, NEAR to SURE, SURE to HUNT, NEAR to HUNT
        Finder y = behind(z -> plain(z, 8));
        y.terms(1, 1);
        flipAll(y, 72 * 2 + 1, 72 * 4 + 1);
        y.take(9600);
        int[][] turns = {{40, 0, 1}, {112, 1, 2}, {184, 2, 0}, {256, 0, 1}, {328, 1, 0}, {400, 0, 1}, {472, 1, 2}};
        for (int k = 0; k < turns.length; k++) {
            for (int what = 0; what < 3; what++) {
                due(y.turn(k, what), turns[k][what]);
            }
        }
        due(y.turn(turns.length, 0), NO_SUCH);
    }

    @Says(promise = 24, value = "How many of SENT are FOUND of none of the DELIVERED ones that are kept.")
    void lostOfNoneAndOfAll() {
        due(new Finder().lost(), 0);
        Finder x = sent(64);
        due(x.lost(), 64);
        x.take(143);
        due(x.lost(), 64);
        x.take(1);
        due(x.lost(), 63);
        x.take(72 * 11);
        due(x.lost(), 52);
        // 12 are kept: with each one more another is forgotten
        x.take(72);
        due(x.lost(), 52);
        x.take(9600);
        due(x.lost(), 52);
        x.fresh();
        due(x.lost(), 64);
        x.empty();
        due(x.lost(), 0);
        // of like ones the first alone is FOUND
        Finder y = resting(3);
        y.take(9600);
        due(y.count(3), 2);
        due(y.lost(), 2);
        // STRANGE ones find none; the last of 64 is found, too
        Finder z = behind(v -> {
            sending(v, 64);
            v.take(72 * 62);
            v.fresh();
        });
        z.take(9600);
        due(z.count(3), 1);
        due(z.count(9), 1);
        due(z.lost(), 64);
        Finder w = behind(v -> {
            sending(v, 64);
            v.take(72 * 61);
            v.fresh();
            v.take(9600);
        });
        due(w.delivered(1, 3), 63);
        due(w.lost(), 63);
        unchanged(ReceiverEdges::twenty, v -> v.lost());
    }
}
