import java.util.List;

/** The edges of promises 25 to 34 and 38: on paper. */
final class PaperEdges extends Edges {
    /** In HUNT by steps, in NEAR, in SURE within a load and a header, with much disturbed behind it. */
    private static final List<Run> MOMENTS = List.of(
        x -> {
            sending(x, 9);
            x.slip(0, 3, 5);
            x.flip(72 * 4 + 9);
            x.terms(6, 3);
            x.take(17);
        },
        x -> {
            sending(x, 9);
            x.terms(2, 2);
            x.slip(72 * 5, 1, 1);
            x.take(72 + 20);
        },
        x -> {
            sending(x, 9);
            x.disturb(300, 200, 30, 5);
            x.take(72 * 2 + 60);
        },
        Edges::busy);

    @Says(promise = 25, value = {"STATE, if it took n more bits (0 to 9,600), or as many as there are.", "-3."})
    void lookNowAndAtTheEnd() {
        Finder x = sent(3);
        due(x.look(0), HUNT);
        due(x.look(39), HUNT);
        due(x.look(40), NEAR);
        due(x.look(111), NEAR);
        due(x.look(112), SURE);
        due(x.look(216), SURE);
        due(x.look(217), SURE);
        due(x.look(9600), SURE);
        x.take(112);
        due(x.look(0), SURE);
        for (int n : new int[] {-1, 9601, LEAST, GREATEST}) {
            refused(CANNOT_BE, Edges::busy, y -> y.look(n));
        }
        Finder none = new Finder();
        due(none.look(0), HUNT);
        due(none.look(9600), HUNT);
        // all of a full line: the check in its last bits is seen by 9,600 alone
        Run run = y -> {
            zeros(y, 9592);
            y.bits(8, 85);
        };
        due(behind(run).look(9599), HUNT);
        due(behind(run).look(9600), NEAR);
    }

    @Says(promise = 25, value = "STATE, if it took n more bits (0 to 9,600), or as many as there are.")
    void lookAsItWouldTake() {
        for (Run run : MOMENTS) {
            Finder x = behind(run);
            Finder y = behind(run);
            for (int n = 1; y.callsLeft() > 0 && x.callsLeft() > 0; n++) {
                due(x.look(n), y.take(1));
            }
        }
    }

    @Says(promise = 26, value = {"How many more bits it must take to be of a STATE (0: now).", "NONE: THE LINE ends ahead of that;", "-3."})
    void untilNowAndNever() {
        Finder x = sent(2);
        due(x.until(HUNT), 0);
        due(x.until(NEAR), 40);
        due(x.until(SURE), 112);
        x.take(39);
        due(x.until(HUNT), 0);
        due(x.until(NEAR), 1);
        x.take(1);
        due(x.until(NEAR), 0);
        due(x.until(HUNT), NONE);
        x.take(72);
        due(x.until(SURE), 0);
        due(x.until(NEAR), NONE);
        // with the last bit of THE LINE, and with one less
        Run run = y -> {
            sending(y, 2);
            y.drop(112, 32);
        };
        due(behind(run).until(SURE), 112);
        Finder less = behind(run);
        less.drop(111, 1);
        quiet(NONE, y -> {
            run.on(y);
            y.drop(111, 1);
        }, y -> y.until(SURE));
        due(less.until(NEAR), 40);
        for (int state : new int[] {-1, 3, LEAST, GREATEST}) {
            refused(CANNOT_BE, Edges::busy, y -> y.until(state));
        }
        quiet(NONE, y -> { }, y -> y.until(SURE));
        due(new Finder().until(HUNT), 0);
    }

    @Says(promise = 26, value = "How many more bits it must take to be of a STATE (0: now).")
    void untilAsItWouldTake() {
        for (Run run : MOMENTS) {
            for (int state = 0; state < 3; state++) {
                int many = behind(run).until(state);
                Finder y = behind(run);
                due(many == 0 ? 1 : 0, y.state(0) == state ? 1 : 0);
                for (int n = 1; n < many && y.callsLeft() > 1; n++) {
                    due(y.take(1) == state ? 1 : 0, 0);
                }
                if (many > 0 && y.callsLeft() > 1) {
                    due(y.take(1), state);
                }
            }
        }
    }

    @Says(promise = 27, value = {"Were bit i flipped, and it took all: what 0 how many were DELIVERED in all, 1 MENDED, 2 DROPPED, 3 how often it "
        + "left SURE, 4 STATE, 5 STRANGE (counts since it was FRESH)."})
    void wouldAsItWouldTake() {
        int[] counts = {3, 1, 2, 5, -1, 9};
        for (Run run : MOMENTS) {
            int at = behind(run).told(1);
            int bits = behind(run).told(0);
            for (int i = at; i < bits; i += i < at + 80 || i > bits - 4 ? 1 : 13) {
                Finder x = behind(run);
                Finder y = behind(run);
                y.flip(i);
                y.take(9600);
                for (int what = 0; what < 6; what++) {
                    due(x.would(i, what), what == 4 ? y.state(0) : y.count(counts[what]));
                }
            }
        }
    }

    @Says(promise = 27, value = {"-2: there is none such, what;", "-5: it was taken."})
    void wouldBeyondTheLine() {
        Run run = x -> {
            sending(x, 6);
            x.take(150);
        };
        for (int i : new int[] {-1, 432, LEAST, GREATEST}) {
            refused(NO_SUCH, run, x -> x.would(i, 0));
        }
        for (int what : new int[] {-1, 6, LEAST, GREATEST}) {
            refused(NO_SUCH, run, x -> x.would(200, what));
            refused(NO_SUCH, run, x -> x.would(0, what));
        }
        for (int what = 0; what < 6; what++) {
            int one = what;
            refused(NOT_NOW, run, x -> x.would(149, one));
            refused(NOT_NOW, run, x -> x.would(0, one));
        }
        // the next and the last one: counts since it was FRESH, what was DELIVERED before among them
        due(behind(run).would(150, 0), 5);
        due(behind(run).would(431, 0), 5);
        due(behind(run).would(431, 5), 1);
        due(behind(run).would(150, 1), 1);
        refused(NO_SUCH, x -> { }, x -> x.would(0, 0));
        refused(NOT_NOW, x -> {
            run.on(x);
            x.take(9600);
        }, x -> x.would(431, 0));
    }

    @Says(promise = 28, value = {"Of the next 48 bits to be taken (of as many as there are) the first by which, were it flipped, and it took the "
        + "next 4,800 bits (as many as there are), fewest are DELIVERED.", "NONE: there are none."})
    void worstOfTheNextFortyeight() {
        // nothing is mended, so a header bit costs a cell, and a load bit none; the header begins with the last of the 48
        for (int ahead : new int[] {46, 47, 48, 49}) {
            Finder x = behind(y -> {
                plain(y, 2);
                y.terms(3, 0);
            });
            x.empty();
            x.terms(0, 10);
            for (int i = 0; i < 6; i++) {
                x.send(20 + i, i);
            }
            x.take(120 * 2 - ahead);
            due(x.state(0), SURE);
            due(x.worst(), ahead < 48 ? 240 : 240 - ahead);
        }
        // fewer than 48 are there
        Finder y = behind(z -> zeros(z, 3));
        y.take(1);
        due(y.worst(), 1);
        y.take(1);
        due(y.worst(), 2);
        quiet(NONE, z -> {
            zeros(z, 3);
            z.take(3);
        }, z -> z.worst());
        quiet(NONE, z -> { }, z -> z.worst());
        // 47 load bits are left, the last of them of no cell that is delivered: all alike, the first
        Finder v = sent(3);
        v.take(112);
        v.drop(144, 72);
        due(v.worst(), 112);
    }

    /** Cells of 41 bytes behind so many zeros: by DELTA 12 the first is delivered behind 4,784 bits of them. */
    private static void longWait(Finder x, int lead) {
        x.terms(0, 41);
        x.terms(2, 12);
        zeros(x, lead);
        for (int i = 0; i < 20; i++) {
            x.send(20 + i, i);
        }
    }

    @Says(promise = 28, value = {"Of the next 48 bits to be taken (of as many as there are) the first by which, were it flipped, and it took the "
        + "next 4,800 bits (as many as there are), fewest are DELIVERED."})
    void worstWithinFortyeightHundred() {
        due(behind(x -> longWait(x, 15)).worst(), 15);
        due(behind(x -> longWait(x, 16)).worst(), 16);
        // one bit later nothing is delivered in these by any of them
        due(behind(x -> longWait(x, 17)).worst(), 0);
        Finder x = behind(y -> longWait(y, 17));
        x.take(1);
        due(x.worst(), 17);
    }

    @Says(promise = 28, value = {"Of the next 48 bits to be taken (of as many as there are) the first by which, were it flipped, and it took the "
        + "next 4,800 bits (as many as there are), fewest are DELIVERED."})
    void worstAsItWouldTake() {
        for (Run run : MOMENTS) {
            int at = behind(run).told(1);
            int worst = NONE;
            int fewest = 0;
            for (int i = at; i < at + 48; i++) {
                Finder y = behind(run);
                y.flip(i);
                y.take(4800);
                int many = y.count(3);
                if (worst == NONE || many < fewest) {
                    worst = i;
                    fewest = many;
                }
            }
            due(behind(run).worst(), worst);
        }
    }

    @Says(promise = 29, value = {"Were n bits (1 to 400) from AT on lost: how many bits behind these it takes till it becomes SURE (a TURN).",
        "NONE: it doesn't till THE LINE ends;", "-3: n, there are not so many."})
    void regainedFewestAndMost() {
        Run run = x -> plain(x, 10);
        due(behind(run).regained(1), 72 * 2 + 40 - 1);
        due(behind(run).regained(72), 112);
        due(behind(run).regained(400), 72 * 7 + 40 - 400);
        for (int n : new int[] {0, -1, 401, LEAST, GREATEST}) {
            refused(CANNOT_BE, run, x -> x.regained(n));
        }
        // all that are there, and one more
        Run few = x -> plain(x, 5);
        quiet(NONE, few, x -> x.regained(360));
        refused(CANNOT_BE, few, x -> x.regained(361));
        refused(CANNOT_BE, x -> { }, x -> x.regained(1));
        Run taken = x -> {
            plain(x, 5);
            x.take(300);
        };
        quiet(NONE, taken, x -> x.regained(60));
        refused(CANNOT_BE, taken, x -> x.regained(61));
        // with the last bit of THE LINE, and with one less
        Finder y = behind(x -> {
            plain(x, 2);
            x.slip(0, 1, 1);
            x.drop(113, 32);
        });
        due(y.regained(1), 112);
        y.drop(112, 1);
        due(y.regained(1), NONE);
        // SURE already, and it stays so: no TURN
        Finder z = behind(x -> {
            plain(x, 10);
            x.take(144);
        });
        due(z.regained(72), NONE);
        due(z.regained(144), NONE);
    }

    @Says(promise = 29, value = "Were n bits (1 to 400) from AT on lost: how many bits behind these it takes till it becomes SURE (a TURN).")
    void regainedAsItWouldTake() {
        for (Run run : MOMENTS) {
            int at = behind(run).told(1);
            for (int n : new int[] {1, 2, 3, 8, 30, 71, 72, 73, 100}) {
                int many = behind(run).regained(n);
                Finder y = behind(run);
                y.drop(at, n);
                int before = y.count(4);
                if (many != NONE) {
                    if (many > 1) {
                        y.take(many - 1);
                    }
                    due(y.count(4), before);
                    due(y.take(1), SURE);
                    due(y.count(4), before + 1);
                } else {
                    y.take(9600);
                    due(y.count(4), before);
                }
            }
        }
    }

    @Says(promise = 30, value = {"Were bit i flipped, and it took all: LOAD bits that it would take as LOAD both ways at one place of THE LINE and "
        + "DESCRAMBLE unlike: how many (k NONE), the place of the k-th.", "NONE: not so many;", "-2: there is no bit i;", "-3: k is below NONE;",
        "-5: it was taken."})
    void spreadFirstAndLast() {
        Run run = x -> {
            plain(x, 5);
            x.take(112);
        };
        // load bits are 112 to 143, 184 to 215, 256 to 287, 328 to 359
        due(behind(run).spread(112, NONE), 2);
        due(behind(run).spread(112, 0), 112);
        due(behind(run).spread(112, 1), 184 + 43 - 32);
        quiet(NONE, run, x -> x.spread(112, 2));
        quiet(NONE, run, x -> x.spread(112, GREATEST));
        due(behind(run).spread(359, NONE), 1);
        due(behind(run).spread(359, 0), 359);
        due(behind(run).spread(359, 1), NONE);
        // the last bit that has one 43 load bits behind it, and the next one
        due(behind(run).spread(276, NONE), 2);
        due(behind(run).spread(276, 1), 359);
        due(behind(run).spread(277, NONE), 1);
        // THE LINE ends within a LOAD: what would come 43 load bits behind 267 is the first bit that isn't there
        Finder ended = behind(run);
        ended.drop(350, 10);
        due(ended.spread(266, NONE), 2);
        due(ended.spread(266, 1), 349);
        due(ended.spread(267, NONE), 1);
        due(ended.spread(349, NONE), 1);
        // a mended header bit: nothing
        due(behind(run).spread(144, NONE), 0);
        quiet(NONE, run, x -> x.spread(144, 0));
        for (int i : new int[] {-1, 360, LEAST, GREATEST}) {
            refused(NO_SUCH, run, x -> x.spread(i, NONE));
            refused(NO_SUCH, run, x -> x.spread(i, -2));
        }
        for (int k : new int[] {-2, LEAST}) {
            refused(CANNOT_BE, run, x -> x.spread(112, k));
            refused(CANNOT_BE, run, x -> x.spread(111, k));
        }
        refused(NOT_NOW, run, x -> x.spread(111, NONE));
        refused(NOT_NOW, run, x -> x.spread(0, 5));
        refused(NO_SUCH, x -> { }, x -> x.spread(0, NONE));
    }

    @Says(promise = 30, value = {"Were bit i flipped, and it took all: LOAD bits that it would take as LOAD both ways at one place of THE LINE and "
        + "DESCRAMBLE unlike: how many (k NONE), the place of the k-th."})
    void spreadAsItWouldTake() {
        for (Run run : MOMENTS) {
            int at = behind(run).told(1);
            int bits = behind(run).told(0);
            int[] plain = descrambled(run, at, bits);
            for (int i = at; i < bits; i += 23) {
                int flipped = i;
                int[] other = descrambled(x -> {
                    run.on(x);
                    x.flip(flipped);
                }, at, bits);
                Finder x = behind(run);
                int many = 0;
                for (int place = at; place < bits; place++) {
                    if (plain[place] != NONE && other[place] != NONE && plain[place] != other[place]) {
                        if (x.callsLeft() > 2) {
                            due(x.spread(i, many), place);
                        }
                        many++;
                    }
                }
                due(x.spread(i, NONE), many);
                due(x.spread(i, many), NONE);
            }
        }
    }

    /** What each bit from AT on is descrambled to, NONE if it isn't taken as LOAD. */
    private static int[] descrambled(Run run, int at, int bits) {
        int[] plain = new int[bits];
        Finder x = behind(run);
        for (int place = at; place < bits; place++) {
            if (x.callsLeft() < 6) {
                int taken = place - at;
                x = behind(run);
                if (taken > 0) {
                    x.take(taken);
                }
            }
            boolean hunts = x.state(0) == HUNT;
            boolean inLoad = x.state(4) > 0;
            int oldest = x.stage(1, 42);
            x.take(1);
            boolean isLoad = !hunts && (inLoad || x.state(4) == 1);
            plain[place] = isLoad ? x.bit(place) ^ oldest : NONE;
        }
        return plain;
    }

    @Says(promise = 31, value = {"Places of THE LINE from i on, n (1 to 2,000) of them, at which 40 bits (all there) look right: how many (k NONE), the "
        + "k-th.", "NONE: not so many;", "-2: there is no bit i;", "-3."})
    void rightsFirstAndLast() {
        // cells at 1, 73, 145 ..; that at 2,017 is the 29th
        Run run = x -> {
            plain(x, 40);
            x.slip(0, 1, 0);
        };
        due(behind(run).rights(0, 1, NONE), 0);
        due(behind(run).rights(0, 2, NONE), 1);
        due(behind(run).rights(1, 1, 0), 1);
        due(behind(run).rights(2, 71, NONE), 0);
        due(behind(run).rights(2, 72, 0), 73);
        due(behind(run).rights(17, 2000, NONE), 27);
        due(behind(run).rights(18, 2000, NONE), 28);
        due(behind(run).rights(18, 2000, 27), 2017);
        quiet(NONE, run, x -> x.rights(18, 2000, 28));
        quiet(NONE, run, x -> x.rights(18, 2000, GREATEST));
        // the last place of which all 40 are there
        Run few = x -> {
            plain(x, 2);
            x.drop(112, 32);
        };
        due(behind(few).rights(0, 2000, NONE), 2);
        due(behind(few).rights(72, 1, 0), 72);
        due(behind(few).rights(111, 2000, NONE), 0);
        Finder y = behind(few);
        y.drop(111, 1);
        due(y.rights(0, 2000, NONE), 1);
        due(y.rights(72, 1, 0), NONE);
        for (int i : new int[] {-1, 112, LEAST, GREATEST}) {
            refused(NO_SUCH, few, x -> x.rights(i, 1, NONE));
            refused(NO_SUCH, few, x -> x.rights(i, 0, -2));
        }
        for (int n : new int[] {0, -1, 2001, LEAST, GREATEST}) {
            refused(CANNOT_BE, few, x -> x.rights(0, n, NONE));
        }
        refused(CANNOT_BE, few, x -> x.rights(0, 1, -2));
        refused(CANNOT_BE, few, x -> x.rights(0, 1, LEAST));
        refused(NO_SUCH, x -> { }, x -> x.rights(0, 1, NONE));
        // each call looks at its own bits alone: the first ends within the second header, the next begins within the first
        Finder v = behind(x -> plain(x, 4));
        due(v.rights(0, 72 + 20 - 39, NONE), 1);
        due(v.rights(20, 1, NONE), 0);
        // what was taken is there still; 39 bits at the end are too few
        y.take(100);
        due(y.rights(0, 1, NONE), 1);
        Finder z = full();
        due(z.rights(9599, 2000, NONE), 0);
    }

    @Says(promise = 32, value = {"Of all places from AT on at which 40 bits look right, by how far they are from AT modulo the bits of a CELL: what 0: "
        + "the number of which most are, the first of like ones; 1: how many.", "NONE: there is no such place;", "-2: what."})
    void phaseFirstAndLast() {
        Run run = x -> plain(x, 4);
        due(behind(run).phase(0), 0);
        due(behind(run).phase(1), 4);
        Finder x = behind(run);
        x.take(1);
        due(x.phase(0), 71);
        due(x.phase(1), 3);
        x.take(71);
        due(x.phase(0), 0);
        due(x.phase(1), 3);
        x.take(72 * 2);
        due(x.phase(0), 0);
        due(x.phase(1), 1);
        x.take(1);
        due(x.phase(0), NONE);
        due(x.phase(1), NONE);
        for (int what : new int[] {-1, 2, LEAST, GREATEST}) {
            refused(NO_SUCH, run, y -> y.phase(what));
            refused(NO_SUCH, y -> { }, y -> y.phase(what));
        }
        quiet(NONE, y -> { }, y -> y.phase(0));
        quiet(NONE, Edges::fill, y -> y.phase(1));
        // each call looks at its own bits alone: 20 of a header at the end, 20 of another at AT
        Finder own = behind(y -> {
            plain(y, 3);
            y.drop(72 * 2 + 20, 72 - 20);
        });
        due(own.phase(1), 2);
        own.take(20);
        due(own.phase(1), 1);
        due(own.phase(1), 1);
        due(own.phase(0), 52);
        // the last place of which all 40 are there
        Finder z = behind(y -> rightAt(y, 7));
        due(z.phase(0), 7);
        due(z.phase(1), 1);
        z.drop(46, 1);
        due(z.phase(0), NONE);
    }

    /** Header 0 and its check at this place, zeros ahead of it. */
    private static void rightAt(Finder x, int place) {
        zeros(x, place - x.told(0) + 32);
        x.bits(8, 85);
    }

    @Says(promise = 32, value = {"Of all places from AT on at which 40 bits look right, by how far they are from AT modulo the bits of a CELL: what 0: "
        + "the number of which most are, the first of like ones; 1: how many."})
    void phaseByTheBitsOfACell() {
        // 424 bits at first: 100 and 524 are of one phase, 100 and 172 are not
        Finder x = behind(y -> {
            rightAt(y, 100);
            rightAt(y, 172);
            rightAt(y, 100 + 424);
        });
        due(x.phase(0), 100);
        due(x.phase(1), 2);
        x.terms(0, 4);
        // by 72: 100 and 172 of phase 28, 524 of 20
        due(x.phase(0), 28);
        due(x.phase(1), 2);
        // like ones: the first number, though the other's place comes first
        Finder z = behind(y -> {
            rightAt(y, 60);
            rightAt(y, 432);
        });
        due(z.phase(0), 8);
        due(z.phase(1), 1);
        // each phase of a small cell, and the greatest of all
        for (int phase = 0; phase < 80; phase++) {
            int place = phase;
            Finder u = behind(y -> {
                y.terms(0, 4);
                rightAt(y, place);
            });
            due(u.phase(0), phase % 72);
            due(u.phase(1), 1);
        }
        Finder v = behind(y -> rightAt(y, 423));
        due(v.phase(0), 423);
        Finder w = behind(y -> rightAt(y, 424));
        due(w.phase(0), 0);
    }

    @Says(promise = 33, value = {"Were a TERM (1 to 3) another one, and it took all: the value (of all it can have) by which DELIVERED ones less twice "
        + "the STRANGE ones are most, the least of like ones.", "-2."})
    void tunedLeastAndGreatest() {
        for (int what : new int[] {0, 4, -1, LEAST, GREATEST}) {
            refused(NO_SUCH, Edges::busy, x -> x.tuned(what));
        }
        // all alike: the least
        Finder none = new Finder();
        due(none.tuned(1), 1);
        due(none.tuned(2), 1);
        due(none.tuned(3), 0);
        // 14 wrong headers one behind the other: only by ALPHA 15 it isn't lost
        Finder x = sent(20);
        x.take(112);
        for (int i = 2; i < 16; i++) {
            flipAll(x, 72 * i + 1, 72 * i + 2);
        }
        due(x.tuned(1), 15);
        x.flip(72 * 15 + 1);
        x.flip(72 * 15 + 2);
        due(x.tuned(1), 14);
        // 14 strange ones first: only by DELTA 15 none of them is delivered
        Finder y = sent(30);
        for (int i = 1; i < 15; i++) {
            y.flip(72 * i + 40 + 31);
        }
        due(y.tuned(2), 15);
        // MENDS: one that is mended as it was sent is one more
        Finder z = sent(5);
        z.take(112);
        due(z.tuned(3), 0);
        z.flip(72 * 2 + 1);
        due(z.tuned(3), 1);
        // as a strange one it counts one less
        z.flip(72 * 2 + 40);
        due(z.tuned(3), 0);
        due(z.told(11), 2);
        due(z.told(12), 1);
        due(z.told(13), 1);
    }

    @Says(promise = 33, value = {"Were a TERM (1 to 3) another one, and it took all: the value (of all it can have) by which DELIVERED ones less twice "
        + "the STRANGE ones are most, the least of like ones."})
    void tunedAsItWouldTake() {
        for (Run run : MOMENTS) {
            for (int what = 1; what <= 3; what++) {
                int best = NONE;
                int most = 0;
                for (int v = what == 3 ? 0 : 1; v <= (what == 3 ? 1 : 15); v++) {
                    Finder y = behind(run);
                    y.terms(what, v);
                    y.take(9600);
                    int worth = y.count(3) - 2 * y.count(9);
                    if (best == NONE || worth > most) {
                        best = v;
                        most = worth;
                    }
                }
                due(behind(run).tuned(what), best);
            }
        }
    }

    @Says(promise = 34, value = {"Of FRESH RECEIVERS, by TERMS as they are, 64 of them, the i-th (0 on) of which takes all bits from AT and i on (as many "
        + "as there are): what 0 how many become SURE, 1 how many bits these took till it, together, 2 the most of these (0: none became SURE), "
        + "3 how many went from NEAR to HUNT at least once till it (or till THE LINE ended)."})
    void startsFirstAndLast() {
        // two cells behind so many zeros: those that begin ahead of the first of them become SURE
        for (int lead : new int[] {0, 1, 62, 63, 64, 100}) {
            Finder x = behind(y -> {
                plain(y, 2);
                slipZeros(y, lead);
            });
            int sure = Math.min(64, lead + 1);
            due(x.starts(0), sure);
            due(x.starts(1), sure * (lead + 112) - sure * (sure - 1) / 2);
            due(x.starts(2), lead + 112);
            due(x.starts(3), 0);
            // with one bit less none does
            x.drop(lead + 72 + 39, 33);
            for (int what = 0; what < 4; what++) {
                due(x.starts(what), 0);
            }
        }
        // fewer bits than receivers, and none at all
        Finder y = behind(z -> {
            zeros(z, 10);
            z.take(1);
        });
        for (int what = 0; what < 4; what++) {
            due(y.starts(what), 0);
            due(new Finder().starts(what), 0);
        }
    }

    private static void slipZeros(Finder x, int n) {
        for (int left = n; left > 0; left -= 32) {
            x.slip(0, Math.min(left, 32), 0);
        }
    }

    @Says(promise = 34, value = "3 how many went from NEAR to HUNT at least once till it (or till THE LINE ended).")
    void startsThatFell() {
        // the second header is wrong: who finds the first falls
        for (int lead : new int[] {0, 5, 63, 70}) {
            Run run = x -> {
                plain(x, 6);
                x.flip(72 + 1);
                slipZeros(x, lead);
            };
            Finder x = behind(run);
            int fell = Math.min(64, lead + 1);
            due(x.starts(3), fell);
            due(x.starts(0), 64);
            due(x.starts(2), lead + 72 * 3 + 40);
            // who falls twice counts once
            x.flip(lead + 72 * 3 + 1);
            due(x.starts(3), 64);
            // who falls and isn't SURE till the end counts, too
            x.drop(lead + 72 * 4 + 20, 72 * 2 - 20);
            due(x.starts(0), 0);
            due(x.starts(3), 64);
        }
        // behind SURE nothing is counted: the fourth header is wrong, the fifth and sixth, too
        Finder y = behind(x -> {
            plain(x, 9);
            flipAll(x, 72 * 3 + 1, 72 * 4 + 1, 72 * 6 + 1);
        });
        due(y.starts(0), 64);
        due(y.starts(3), 0);
    }

    @Says(promise = 34, value = {"Of FRESH RECEIVERS, by TERMS as they are, 64 of them, the i-th (0 on) of which takes all bits from AT and i on (as many "
        + "as there are):", "-2: what."})
    void startsAsFreshOnesWouldTake() {
        for (Run run : MOMENTS) {
            int at = behind(run).told(1);
            int bits = behind(run).told(0);
            int[] want = new int[4];
            for (int i = 0; i < 64; i++) {
                Finder y = behind(run);
                if (i > 0) {
                    y.take(i);
                }
                y.fresh();
                int took = y.until(SURE);
                int end = took == NONE ? bits - at - i : took;
                if (took != NONE) {
                    want[0]++;
                    want[1] += took;
                    want[2] = Math.max(want[2], took);
                }
                if (end > 0) {
                    y.take(end);
                }
                int turns = y.count(7);
                boolean fell = false;
                for (int k = Math.max(0, turns - 24); k < turns; k++) {
                    fell |= y.turn(k, 1) == NEAR && y.turn(k, 2) == HUNT;
                }
                want[3] += fell ? 1 : 0;
            }
            for (int what = 0; what < 4; what++) {
                due(behind(run).starts(what), want[what]);
            }
        }
        for (int what : new int[] {-1, 4, LEAST, GREATEST}) {
            refused(NO_SUCH, Edges::busy, x -> x.starts(what));
        }
    }

    @Says(promise = 38, value = {"Of 1 to 64 bits lost from AT on (as for regained(); as many as there are): what 0 the most bits till it becomes SURE "
        + "(of those by which it does), 1 by how many lost ones, the fewest of like ones, 2 by how many of these numbers it becomes SURE.",
        "NONE (0, 1): by none;", "-2: what."})
    void latestFewestAndMost() {
        // two cells behind so many zeros: who loses these alone or fewer becomes SURE
        for (int lead : new int[] {1, 2, 63, 64, 65, 90}) {
            Finder x = behind(y -> {
                plain(y, 2);
                slipZeros(y, lead);
            });
            due(x.latest(0), lead + 112 - 1);
            due(x.latest(1), 1);
            due(x.latest(2), Math.min(64, lead));
        }
        Run none = x -> plain(x, 2);
        quiet(NONE, none, x -> x.latest(0));
        quiet(NONE, none, x -> x.latest(1));
        quiet(0, none, x -> x.latest(2));
        // fewer than 64 are there, or none
        for (int n : new int[] {0, 1, 63}) {
            Finder x = behind(y -> zeros(y, n));
            due(x.latest(0), NONE);
            due(x.latest(1), NONE);
            due(x.latest(2), 0);
        }
        for (int what : new int[] {-1, 3, LEAST, GREATEST}) {
            refused(NO_SUCH, Edges::busy, x -> x.latest(what));
            refused(NO_SUCH, x -> { }, x -> x.latest(what));
        }
    }

    @Says(promise = 38, value = {"Of 1 to 64 bits lost from AT on (as for regained(); as many as there are): what 0 the most bits till it becomes SURE "
        + "(of those by which it does), 1 by how many lost ones, the fewest of like ones, 2 by how many of these numbers it becomes SURE."})
    void latestAsRegained() {
        for (Run run : MOMENTS) {
            int most = NONE;
            int by = NONE;
            int many = 0;
            Finder x = behind(run);
            for (int n = 1; n <= 64; n++) {
                int took = x.regained(n);
                many += took == NONE ? 0 : 1;
                if (took > most) {
                    most = took;
                    by = n;
                }
            }
            due(x.latest(0), most);
            due(x.latest(1), by);
            due(x.latest(2), many);
        }
    }

    @Says(promise = 38, value = "1 by how many lost ones, the fewest of like ones,")
    void latestFewestOfLikeOnes() {
        // NEAR with 32 bits of LOAD ahead: by 10 and by 50 lost ones the next 40 look right, by others they don't
        Finder x = behind(y -> {
            plain(y, 1);
            rightAt(y, 40 + 32 + 10);
            rightAt(y, 40 + 32 + 50);
            y.take(40);
        });
        due(x.state(0), NEAR);
        due(x.regained(10), 72);
        due(x.regained(50), 72);
        due(x.latest(0), 72);
        due(x.latest(1), 10);
        due(x.latest(2), 2);
    }
}
