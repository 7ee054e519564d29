/** The edges of promises 1 to 12: a new object and the line. */
final class LineEdges extends Edges {
    @Says(promise = 1, value = "An empty LINE, a FRESH RECEIVER.")
    void newObject() {
        Finder x = new Finder();
        for (int what = 0; what <= 2; what++) {
            due(x.told(what), 0);
        }
        for (int what = 0; what <= 10; what++) {
            due(x.state(what), what == 7 ? NONE : 0);
        }
        for (int what = 0; what <= 13; what++) {
            due(x.count(what), 0);
        }
        for (int i = 0; i < 43; i++) {
            due(x.stage(0, i), 0);
            due(x.stage(1, i), 0);
        }
        due(x.bit(0), NONE);
        due(x.delivered(0, 0), NO_SUCH);
        due(x.judged(0, 0), NO_SUCH);
        due(x.turn(0, 0), NO_SUCH);
        due(x.lost(), 0);
        due(x.fresh(), 0);
        due(x.empty(), 0);
        // one object knows nothing of another
        Finder y = behind(Edges::busy);
        due(new Finder().told(0), 0);
        due(y.told(0), 864);
    }

    @Says(promise = 2, value = {"Twenty bytes, four of each number, the highest first, come behind THE LINE: how many bits it has.",
        "-4: it would have more than 9,600."})
    void feedUpToTheLastBit() {
        Finder x = new Finder();
        x.bits(1, 1);
        due(x.feed(LEAST, -1, 0, GREATEST, 0x12345678), 161);
        due(x.bit(0), 1);
        due(numberAt(x, 1, 32), 0x80000000L);
        due(numberAt(x, 33, 32), 0xFFFFFFFFL);
        due(numberAt(x, 65, 32), 0);
        due(numberAt(x, 97, 32), 0x7FFFFFFFL);
        due(numberAt(x, 129, 32), 0x12345678L);
        due(x.bit(161), NONE);
        Finder y = behind(z -> zeros(z, 9440));
        due(y.feed(1, 1, 1, 1, 3), 9600);
        due(numberAt(y, 9568, 32), 3);
        due(y.feed(1, 1, 1, 1, 1), TOO_MANY);
        refused(TOO_MANY, z -> zeros(z, 9441), z -> z.feed(-1, -1, -1, -1, -1));
        refused(TOO_MANY, z -> zeros(z, 9599), z -> z.feed(-1, -1, -1, -1, -1));
        refused(TOO_MANY, Edges::fill, z -> z.feed(-1, -1, -1, -1, -1));
        // what was taken still takes its room
        Finder v = full();
        v.take(9600);
        due(v.feed(0, 0, 0, 0, 0), TOO_MANY);
        v.empty();
        due(v.feed(0, 0, 0, 0, 0), 160);
    }

    @Says(promise = 3, value = {"The first n bits of v (its lowest n, of these the highest first; n 1 to 32) come behind THE LINE: "
        + "how many it has.", "-3;"})
    void bitsOfFewestAndMost() {
        Finder x = new Finder();
        due(x.bits(1, -2), 1);
        due(x.bit(0), 0);
        due(x.bits(1, 3), 2);
        due(x.bit(1), 1);
        due(x.bits(32, LEAST), 34);
        due(numberAt(x, 2, 32), 0x80000000L);
        due(x.bits(31, -1), 65);
        due(x.bits(31, LEAST + 1), 96);
        due(numberAt(x, 34, 31), GREATEST);
        due(numberAt(x, 65, 31), 1);
        due(x.bits(4, 0b100110), 100);
        due(numberAt(x, 96, 4), 0b0110);
        for (int n : new int[] {0, -1, 33, LEAST, GREATEST}) {
            refused(CANNOT_BE, Edges::busy, y -> y.bits(n, -1));
        }
    }

    @Says(promise = 3, value = "-4.")
    void bitsUpToTheLastBit() {
        due(behind(x -> zeros(x, 9568)).bits(32, -1), 9600);
        due(behind(x -> zeros(x, 9599)).bits(1, -1), 9600);
        refused(TOO_MANY, x -> zeros(x, 9569), x -> x.bits(32, -1));
        refused(TOO_MANY, x -> zeros(x, 9599), x -> x.bits(2, -1));
        refused(TOO_MANY, Edges::fill, x -> x.bits(1, 1));
        refused(CANNOT_BE, Edges::fill, x -> x.bits(33, 1));
        refused(CANNOT_BE, Edges::fill, x -> x.bits(0, 1));
    }

    @Says(promise = 4, value = {"A CELL is SENT, its LOAD by a SEED: its number.", "-3;"})
    void sendNumbersFromNothingOn() {
        Finder x = behind(Edges::small);
        due(x.send(LEAST, 0), 0);
        due(x.send(-1, 1000003), 1);
        due(x.send(GREATEST, 1), 2);
        due(x.told(0), 216);
        due(x.told(2), 3);
        due(numberAt(x, 72, 32), 0xFFFFFFFFL);
        due(numberAt(x, 104, 8), x.check(-1));
        for (int seed : new int[] {-1, 1000004, LEAST, GREATEST}) {
            refused(CANNOT_BE, Edges::busy, y -> y.send(5, seed));
        }
        // a refused one leaves no number out
        due(x.send(1, -1), CANNOT_BE);
        due(x.send(1, 0), 3);
    }

    @Says(promise = 4, value = "-4: THE LINE has no room, 64 were SENT.")
    void sendIntoTheLastRoom() {
        due(behind(x -> zeros(x, 9176)).send(5, 5), 0);
        refused(TOO_MANY, x -> zeros(x, 9177), x -> x.send(5, 5));
        Finder y = behind(x -> {
            small(x);
            zeros(x, 9528);
        });
        due(y.send(5, 5), 0);
        due(y.told(0), 9600);
        due(y.bit(9599), y.stage(0, 0));
        refused(TOO_MANY, x -> {
            small(x);
            zeros(x, 9529);
        }, x -> x.send(5, 5));
        refused(CANNOT_BE, x -> zeros(x, 9177), x -> x.send(5, -1));
        due(behind(x -> sending(x, 63)).send(5, 5), 63);
        refused(TOO_MANY, x -> sending(x, 64), x -> x.send(5, 5));
        refused(CANNOT_BE, x -> sending(x, 64), x -> x.send(5, 1000004));
        // the scrambler and what was SENT are as they were: the next cell is put as it would have been
        Finder z = sent(2);
        Finder v = sent(2);
        zeros(v, 9600 - 144);
        v.send(5, 5);
        v.drop(9200, 400);
        z.send(6, 6);
        v.send(6, 6);
        due(numberAt(v, 9200, 40), numberAt(z, 144, 40));
        due(numberAt(v, 9240, 32), numberAt(z, 184, 32));
    }

    @Says(promise = 5, value = {"n (1 to 20) CELLS are SENT, of HEADER 1, each byte of LOAD 106: how many were SENT in all.", "-3;"})
    void restOfFewestAndMost() {
        Finder x = behind(Edges::small);
        due(x.rest(1), 1);
        due(x.told(0), 72);
        due(x.rest(20), 21);
        due(x.told(0), 72 * 21);
        due(x.told(2), 21);
        for (int cell : new int[] {0, 1, 20}) {
            due(numberAt(x, 72 * cell, 32), 1);
            due(numberAt(x, 72 * cell + 32, 8), 82);
        }
        x.take(9600);
        for (int k = 8; k < 20; k++) {
            due(x.delivered(k, 0), 1);
            due(x.delivered(k, 3), 0);
            for (int i = 0; i < 4; i++) {
                due(x.load(k, i), 106);
            }
        }
        for (int n : new int[] {0, -1, 21, LEAST, GREATEST}) {
            refused(CANNOT_BE, Edges::busy, y -> y.rest(n));
        }
    }

    @Says(promise = 5, value = "-4 (none then).")
    void restIntoTheLastRoom() {
        due(behind(x -> zeros(x, 9600 - 20 * 424)).rest(20), 20);
        refused(TOO_MANY, x -> zeros(x, 9600 - 20 * 424 + 1), x -> x.rest(20));
        Finder y = behind(x -> zeros(x, 9600 - 20 * 424 + 1));
        due(y.rest(20), TOO_MANY);
        due(y.told(2), 0);
        due(y.rest(19), 19);
        due(behind(x -> sending(x, 44)).rest(20), 64);
        refused(TOO_MANY, x -> sending(x, 45), x -> x.rest(20));
        Finder z = sent(45);
        due(z.rest(20), TOO_MANY);
        due(z.told(0), 45 * 72);
        due(z.rest(19), 64);
        refused(CANNOT_BE, x -> sending(x, 64), x -> x.rest(21));
        refused(CANNOT_BE, Edges::fill, x -> x.rest(0));
    }

    @Says(promise = 6, value = {"Bit i of THE LINE becomes the other one: what it is then.", "-2: there is none such;"})
    void flipFirstAndLast() {
        Finder x = behind(y -> y.bits(4, 0b0110));
        due(x.flip(0), 1);
        due(x.flip(3), 1);
        due(x.flip(1), 0);
        due(numberAt(x, 0, 4), 0b1011);
        due(x.flip(0), 0);
        due(numberAt(x, 0, 4), 0b0011);
        for (int i : new int[] {-1, 4, LEAST, GREATEST}) {
            refused(NO_SUCH, y -> y.bits(4, 0b0110), y -> y.flip(i));
        }
        refused(NO_SUCH, y -> { }, y -> y.flip(0));
        due(full().flip(9599), 1);
        refused(NO_SUCH, Edges::fill, y -> y.flip(9600));
        // a bit that went is there no more
        x.drop(3, 1);
        due(x.flip(3), NO_SUCH);
        x.empty();
        due(x.flip(0), NO_SUCH);
    }

    @Says(promise = 6, value = "-5: it was taken.")
    void flipTheLastTaken() {
        Run run = x -> {
            x.bits(4, 0b0110);
            x.take(2);
        };
        refused(NOT_NOW, run, x -> x.flip(0));
        refused(NOT_NOW, run, x -> x.flip(1));
        due(behind(run).flip(2), 0);
        due(behind(run).flip(3), 1);
        refused(NO_SUCH, run, x -> x.flip(4));
        refused(NOT_NOW, x -> {
            run.on(x);
            x.take(9600);
        }, x -> x.flip(3));
        // by FRESH what was taken stays taken, by emptying it it doesn't
        Finder y = behind(run);
        y.fresh();
        due(y.flip(1), NOT_NOW);
        y.empty();
        y.bits(2, 0);
        due(y.flip(1), 1);
    }

    @Says(promise = 7, value = {"n bits (1 to 400) of THE LINE from i on go: how many it has.", "-2: i;"})
    void dropFewestAndMost() {
        Run run = x -> {
            x.bits(32, 0x12345678);
            zeros(x, 400);
            x.bits(32, 0x7ABCDEF1);
        };
        Finder x = behind(run);
        due(x.drop(32, 400), 64);
        due(numberAt(x, 0, 32), 0x12345678);
        due(numberAt(x, 32, 32), 0x7ABCDEF1);
        due(x.bit(64), NONE);
        due(x.drop(0, 1), 63);
        due(numberAt(x, 0, 31), 0x12345678);
        due(x.drop(62, 1), 62);
        due(numberAt(x, 31, 31), 0x7ABCDEF1 >> 1);
        due(x.drop(0, 62), 0);
        due(x.drop(0, 1), NO_SUCH);
        for (int i : new int[] {-1, 464, LEAST, GREATEST}) {
            refused(NO_SUCH, run, y -> y.drop(i, 1));
        }
        refused(NO_SUCH, run, y -> y.drop(464, 0));
        refused(NO_SUCH, y -> { }, y -> y.drop(0, 1));
        // what goes leaves room
        Finder z = full();
        due(z.drop(0, 400), 9200);
        due(z.feed(0, 0, 0, 0, 0), 9360);
    }

    @Says(promise = 7, value = "-3: n, there are not so many;")
    void dropMoreThanThereAre() {
        Run run = x -> {
            x.bits(32, 0x12345678);
            zeros(x, 400);
            x.bits(32, 0x7ABCDEF1);
        };
        for (int n : new int[] {0, -1, 401, LEAST, GREATEST}) {
            refused(CANNOT_BE, run, x -> x.drop(0, n));
        }
        refused(CANNOT_BE, run, x -> x.drop(464 - 1, 2));
        refused(CANNOT_BE, run, x -> x.drop(464 - 399, 400));
        due(behind(run).drop(464 - 1, 1), 463);
        due(behind(run).drop(464 - 400, 400), 64);
        refused(CANNOT_BE, run, x -> x.drop(463, GREATEST));
    }

    @Says(promise = 7, value = "-5: i was taken.")
    void dropTheLastTaken() {
        Run run = x -> {
            x.bits(8, 0b10110011);
            x.take(3);
        };
        refused(NOT_NOW, run, x -> x.drop(2, 1));
        refused(NOT_NOW, run, x -> x.drop(0, 8));
        refused(CANNOT_BE, run, x -> x.drop(2, 7));
        refused(NO_SUCH, run, x -> x.drop(8, 1));
        Finder x = behind(run);
        due(x.drop(3, 5), 3);
        due(x.told(1), 3);
        due(x.drop(3, 1), NO_SUCH);
        due(x.drop(2, 1), NOT_NOW);
        due(x.take(1), HUNT);
        due(x.told(1), 3);
        due(x.state(8), 3);
    }

    @Says(promise = 8, value = {"n bits (1 to 32) of v, as by bits(), come ahead of bit i (i may be how many there are): how many it has.",
        "-2: i;"})
    void slipAheadOfFirstAndBehindLast() {
        Finder x = new Finder();
        due(x.slip(0, 1, 1), 1);
        due(x.slip(0, 1, 0), 2);
        due(numberAt(x, 0, 2), 0b01);
        due(x.slip(2, 3, 0b11101), 5);
        due(numberAt(x, 0, 5), 0b01101);
        due(x.slip(1, 32, LEAST + 1), 37);
        due(numberAt(x, 0, 37), 0x80000001L << 4 | 0b1101);
        for (int i : new int[] {-1, 38, LEAST, GREATEST}) {
            int place = i;
            refused(NO_SUCH, y -> zeros(y, 37), y -> y.slip(place, 1, 1));
        }
        due(behind(y -> zeros(y, 37)).slip(37, 1, 1), 38);
        refused(NO_SUCH, y -> { }, y -> y.slip(1, 1, 1));
        refused(NO_SUCH, y -> zeros(y, 37), y -> y.slip(38, 0, 1));
    }

    @Says(promise = 8, value = {"-3;", "-4;"})
    void slipOfFewestAndMost() {
        for (int n : new int[] {0, -1, 33, LEAST, GREATEST}) {
            refused(CANNOT_BE, Edges::busy, x -> x.slip(x.told(1), n, -1));
            refused(CANNOT_BE, Edges::fill, x -> x.slip(0, n, -1));
        }
        due(behind(x -> zeros(x, 9568)).slip(0, 32, -1), 9600);
        due(behind(x -> zeros(x, 9568)).slip(9568, 32, -1), 9600);
        refused(TOO_MANY, x -> zeros(x, 9569), x -> x.slip(0, 32, -1));
        refused(TOO_MANY, x -> zeros(x, 9569), x -> x.slip(9569, 32, -1));
        refused(TOO_MANY, Edges::fill, x -> x.slip(9600, 1, -1));
        // the last bit is the one that was last
        Finder y = behind(x -> zeros(x, 9568));
        y.flip(9567);
        y.slip(5, 32, 0);
        due(y.bit(9599), 1);
        due(y.bit(9567), 0);
    }

    @Says(promise = 8, value = "-5: i was taken.")
    void slipAheadOfTheNext() {
        Run run = x -> {
            x.bits(8, 0b10110011);
            x.take(3);
        };
        refused(NOT_NOW, run, x -> x.slip(2, 1, 1));
        refused(NOT_NOW, run, x -> x.slip(0, 1, 1));
        refused(CANNOT_BE, run, x -> x.slip(0, 33, 1));
        refused(NO_SUCH, run, x -> x.slip(9, 1, 1));
        Finder x = behind(run);
        due(x.slip(3, 2, 0), 10);
        due(numberAt(x, 0, 10), 0b1010010011);
        due(x.told(1), 3);
        // all was taken: behind it is still room
        Finder y = behind(run);
        y.take(9600);
        due(y.slip(8, 1, 1), 9);
        due(y.slip(7, 1, 1), NOT_NOW);
        // full and taken: too many is told ahead of taken
        refused(TOO_MANY, z -> {
            fill(z);
            z.take(10);
        }, z -> z.slip(0, 1, 1));
    }

    @Says(promise = 9, value = {"Of n bits (1 to 2,000) from i on each becomes the other one, if a number is 0: s (as for a LOAD, from the "
        + "SEED on, one for each bit) modulo k (1 to 1,000): how many did.", "-2: i;"})
    void disturbFewestAndMost() {
        Finder x = behind(y -> zeros(y, 2002));
        due(x.disturb(1, 2000, 1, 0), 2000);
        due(x.bit(0), 0);
        due(x.bit(1), 1);
        due(x.bit(2000), 1);
        due(x.bit(2001), 0);
        due(x.disturb(2001, 1, 1, 0), 1);
        due(x.bit(2001), 1);
        due(x.disturb(0, 1, 1, 0), 1);
        due(x.bit(0), 1);
        // from SEED 0 on s is 12,345 (15 times 823) and 628,841
        due(x.disturb(0, 2, 823, 0), 1);
        due(x.bit(0), 0);
        due(x.bit(1), 1);
        due(x.disturb(0, 2, 824, 0), 0);
        due(x.disturb(0, 2, 1000, 0), 0);
        for (int i : new int[] {-1, 2002, LEAST, GREATEST}) {
            refused(NO_SUCH, y -> zeros(y, 2002), y -> y.disturb(i, 1, 1, 0));
        }
        refused(NO_SUCH, y -> { }, y -> y.disturb(0, 1, 1, 0));
        refused(NO_SUCH, y -> zeros(y, 9), y -> y.disturb(9, 0, 0, -1));
    }

    @Says(promise = 9, value = {"Of n bits (1 to 2,000) from i on each becomes the other one, if a number is 0: s (as for a LOAD, from the "
        + "SEED on, one for each bit) modulo k (1 to 1,000): how many did.", "-3 (there are not so many, too);"})
    void disturbBeyondItsNumbers() {
        Run run = x -> zeros(x, 2002);
        for (int n : new int[] {0, -1, 2001, LEAST, GREATEST}) {
            refused(CANNOT_BE, run, x -> x.disturb(0, n, 1, 0));
        }
        refused(CANNOT_BE, run, x -> x.disturb(3, 2000, 1, 0));
        refused(CANNOT_BE, run, x -> x.disturb(2001, 2, 1, 0));
        due(behind(run).disturb(2, 2000, 1, 0), 2000);
        for (int k : new int[] {0, -1, 1001, LEAST, GREATEST}) {
            refused(CANNOT_BE, run, x -> x.disturb(0, 1, k, 0));
        }
        for (int seed : new int[] {-1, 1000004, LEAST, GREATEST}) {
            refused(CANNOT_BE, run, x -> x.disturb(0, 1, 1, seed));
        }
        // the greatest SEED and the greatest k: 1,000,003 leads to 12,345, as 0 does
        for (int seed : new int[] {0, 1000002, 1000003}) {
            int[] bits = lineOf(x -> {
                run.on(x);
                x.disturb(1, 2000, 1000, seed);
            });
            long s = seed;
            int many = 0;
            for (int i = 1; i <= 2000; i++) {
                s = (s * 1103 + 12345) % 1000003;
                due(bits[i], s % 1000 == 0 ? 1 : 0);
                many += bits[i];
            }
            due(behind(run).disturb(1, 2000, 1000, seed), many);
        }
    }

    @Says(promise = 9, value = "-5: i was taken.")
    void disturbTheLastTaken() {
        Run run = x -> {
            x.bits(8, 0);
            x.take(3);
        };
        refused(NOT_NOW, run, x -> x.disturb(2, 1, 1, 0));
        refused(NOT_NOW, run, x -> x.disturb(0, 8, 1, 0));
        refused(CANNOT_BE, run, x -> x.disturb(0, 9, 1, 0));
        refused(CANNOT_BE, run, x -> x.disturb(2, 1, 1001, 0));
        refused(NO_SUCH, run, x -> x.disturb(8, 1, 1, 0));
        Finder x = behind(run);
        due(x.disturb(3, 5, 1, 0), 5);
        due(numberAt(x, 0, 8), 0b00011111);
    }

    @Says(promise = 10, value = "Bit i. NONE.")
    void bitFirstAndLast() {
        Finder x = behind(y -> y.bits(3, 0b101));
        due(x.bit(0), 1);
        due(x.bit(1), 0);
        due(x.bit(2), 1);
        due(x.bit(3), NONE);
        due(x.bit(-1), NONE);
        due(x.bit(LEAST), NONE);
        due(x.bit(GREATEST), NONE);
        // taken or not
        x.take(3);
        due(x.bit(0), 1);
        due(x.bit(2), 1);
        x.empty();
        due(x.bit(0), NONE);
        due(new Finder().bit(0), NONE);
        Finder y = full();
        due(y.bit(9599), 0);
        due(y.bit(9600), NONE);
        // what went is there no more, though it was written once
        y.flip(9599);
        y.drop(9598, 1);
        due(y.bit(9598), 1);
        due(y.bit(9599), NONE);
        unchanged(Edges::busy, z -> z.bit(5));
    }

    @Says(promise = 11, value = "THE LINE is empty, nothing SENT, the SENDER as at first; THE RECEIVER stays as it is, AT 0 (places of what "
        + "it DELIVERED, of TURNS stay as they were): how many bits there were.")
    void emptyAFullLine() {
        Finder x = full();
        due(x.empty(), 9600);
        due(x.told(0), 0);
        due(x.empty(), 0);
        due(x.bit(0), NONE);
        zeros(x, 1);
        due(x.empty(), 1);
        Finder y = sent(64);
        due(y.empty(), 64 * 72);
        due(y.told(2), 0);
        due(y.lost(), 0);
        for (int i = 0; i < 43; i++) {
            due(y.stage(0, i), 0);
        }
        due(y.send(100, 0), 0);
        due(numberAt(y, 40, 32), numberAt(sent(1), 40, 32));
    }

    @Says(promise = 11, value = "THE LINE is empty, nothing SENT, the SENDER as at first; THE RECEIVER stays as it is, AT 0 (places of what "
        + "it DELIVERED, of TURNS stay as they were): how many bits there were.")
    void emptyLeavesTheReceiver() {
        for (int at : new int[] {0, 1, 39, 40, 60, 72, 100, 112, 130, 144, 150, 72 * 3 + 40, 72 * 6 + 11}) {
            Run run = x -> {
                sending(x, 12);
                flipAll(x, 72 * 2 + 5, 72 * 3 + 6, 72 * 4 + 50);
                if (at > 0) {
                    x.take(at);
                }
            };
            Finder x = behind(run);
            Finder y = behind(run);
            due(y.empty(), 864);
            due(y.told(1), 0);
            for (int what = 0; what <= 10; what++) {
                due(y.state(what), x.state(what));
            }
            for (int what = 0; what <= 13; what++) {
                due(y.count(what), x.count(what));
            }
            for (int i = 0; i < 43; i++) {
                due(y.stage(1, i), x.stage(1, i));
            }
            for (int k = 0; k < 6; k++) {
                for (int what = 0; what < 3; what++) {
                    due(y.delivered(k, what), x.delivered(k, what));
                    due(y.turn(k, what), x.turn(k, what));
                    due(y.judged(k, what), x.judged(k, what));
                }
                due(y.load(k, 3), x.load(k, 3));
            }
            // FOUND is of SENT, and nothing is
            due(y.delivered(0, 3), x.delivered(0, 0) == NO_SUCH ? NO_SUCH : NONE);
            // it goes on where it stood: the same bits on the new line lead to the same
            int[] bits = lineOf(run);
            Finder z = behind(run);
            z.empty();
            put(z, bits, at, 864);
            for (int n : new int[] {1, 20, 41, 75, 9600}) {
                due(z.take(n), x.take(n));
                due(z.told(1), x.told(1) - at);
                for (int what = 0; what <= 10; what++) {
                    due(z.state(what), x.state(what));
                }
            }
        }
    }

    @Says(promise = 12, value = {"A TERM: what it was.", "-2;", "-3;"})
    void termsBeyondTheirNumbers() {
        for (int what : new int[] {-1, 7, 10, LEAST, GREATEST}) {
            refused(NO_SUCH, Edges::busy, x -> x.terms(what, 1));
        }
        refused(NO_SUCH, Edges::busy, x -> x.terms(7, GREATEST));
        int[] least = {4, 1, 1, 0, 40, 0, 1};
        int[] greatest = {48, 15, 15, 1, 4000, 1, 8};
        for (int i = 0; i < 7; i++) {
            int what = i;
            refused(CANNOT_BE, Edges::busy, x -> x.terms(what, least[what] - 1));
            refused(CANNOT_BE, Edges::busy, x -> x.terms(what, greatest[what] + 1));
        }
        Finder y = new Finder();
        due(y.terms(6, 8), 1);
        due(y.terms(6, 8), 8);
        due(y.terms(6, 1), 8);
        due(y.told(16), 1);
    }

    @Says(promise = 12, value = "-5: TERM 0, and a CELL was SENT (of those that THE LINE knows), STATE isn't HUNT, or something was "
        + "DELIVERED since it was FRESH.")
    void termLoadIsHeld() {
        // one CELL was SENT, and is known till the line is emptied, even if it was dropped from it
        refused(NOT_NOW, x -> sending(x, 1), x -> x.terms(0, 4));
        refused(NOT_NOW, x -> rested(x, 1), x -> x.terms(0, 48));
        Finder x = sent(1);
        x.drop(0, 72);
        due(x.terms(0, 5), NOT_NOW);
        x.empty();
        due(x.terms(0, 5), 4);
        // bits alone don't hold it
        Finder y = new Finder();
        y.feed(1, 2, 3, 4, 5);
        y.take(100);
        due(y.terms(0, 47), 48);
        // NEAR and SURE, with nothing SENT
        for (int at : new int[] {40, 71, 112, 143}) {
            Run run = z -> {
                plain(z, 3);
                z.take(at);
            };
            due(behind(run).count(3), 0);
            refused(NOT_NOW, run, z -> z.terms(0, 5));
            refused(CANNOT_BE, run, z -> z.terms(0, 49));
            due(behind(run).terms(1, 15), 2);
        }
        Finder z = behind(v -> plain(v, 3));
        z.take(39);
        due(z.terms(0, 5), 4);
    }

    @Says(promise = 12, value = "-5: TERM 0, and a CELL was SENT (of those that THE LINE knows), STATE isn't HUNT, or something was "
        + "DELIVERED since it was FRESH.")
    void termLoadIsHeldByWhatWasDelivered() {
        Run lostAgain = x -> {
            plain(x, 2);
            zeros(x, 80);
            x.take(9600);
        };
        Finder x = behind(lostAgain);
        due(x.state(0), SURE);
        zeros(x, 100);
        x.take(9600);
        due(x.state(0), HUNT);
        due(x.count(3) > 0 ? 1 : 0, 1);
        due(x.terms(0, 5), NOT_NOW);
        x.empty();
        due(x.terms(0, 5), NOT_NOW);
        due(x.told(10), 4);
        x.fresh();
        due(x.terms(0, 5), 4);
        // an IDLE one isn't DELIVERED
        Finder y = behind(z -> rested(z, 2));
        y.terms(5, 1);
        y.terms(1, 1);
        y.take(9600);
        y.empty();
        zeros(y, 40);
        y.take(40);
        due(y.state(0), HUNT);
        due(y.count(10), 1);
        due(y.terms(0, 5), 4);
    }
}
