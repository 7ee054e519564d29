import java.lang.reflect.InvocationTargetException;
import java.lang.reflect.Method;

/** For each promise of the document ordinary inputs, its edges and wrong inputs. */
public final class PromiseTest {
    private static int promise;
    private static int wrong;

    private static void due(String call, long got, long want) {
        if (got != want) {
            wrong++;
            System.out.println("promise " + promise + ": " + call + " answered " + got + ", due is " + want);
        }
    }

    public static void main(String[] args) throws Exception {
        for (promise = 1; promise <= 48; promise++) {
            Method test = PromiseTest.class.getDeclaredMethod("promise" + promise);
            try {
                test.invoke(null);
            } catch (InvocationTargetException e) {
                wrong++;
                System.out.println("promise " + promise + " threw " + e.getCause());
            }
        }
        System.out.println(wrong == 0 ? "all promises hold" : wrong + " answers are not as due");
        System.exit(wrong == 0 ? 0 : 1);
    }

    /** Cells of four bytes (72 bits), sure behind two checks in a row, lost by two. */
    private static Finder small() {
        Finder x = new Finder();
        x.terms(0, 4);
        x.terms(1, 2);
        x.terms(2, 1);
        x.terms(4, 40);
        return x;
    }

    /** Headers 100, 101 and on, seeds 0, 1 and on. */
    private static Finder sending(int cells) {
        Finder x = small();
        for (int i = 0; i < cells; i++) {
            x.send(100 + i, i);
        }
        return x;
    }

    /** ALPHA and DELTA as told. */
    private static Finder byTerm(int term) {
        Finder x = new Finder();
        x.terms(1, term);
        x.terms(2, term);
        return x;
    }

    private static Finder full() {
        Finder x = new Finder();
        for (int i = 0; i < 60; i++) {
            x.feed(0, 0, 0, 0, 0);
        }
        return x;
    }

    private static long numberAt(Finder x, int i, int n) {
        long v = 0;
        for (int j = 0; j < n; j++) {
            v = 2 * v + x.bit(i + j);
        }
        return v;
    }

    static void promise1() {
        Finder x = new Finder();
        int[] first = {48, 7, 6, 1, 800, 0, 1};
        for (int i = 0; i < 7; i++) {
            due("term " + i, x.told(10 + i), first[i]);
        }
        for (int i = 0; i < 14; i++) {
            due("count(" + i + ")", x.count(i), 0);
        }
        for (int i = 0; i < 11; i++) {
            due("state(" + i + ")", x.state(i), i == 7 ? -1 : 0);
        }
        for (int i = 0; i < 3; i++) {
            due("told(" + i + ")", x.told(i), 0);
        }
        due("bit(0)", x.bit(0), CellFinder.NONE);
        due("delivered", x.delivered(0, 0), -2);
        due("judged", x.judged(0, 0), -2);
        due("turn", x.turn(0, 0), -2);
    }

    static void promise2() {
        Finder x = new Finder();
        due("feed", x.feed(0x80000001, 0, -2, 7, 0x12345678), 160);
        due("first", numberAt(x, 0, 32), 0x80000001L);
        due("third", numberAt(x, 64, 32), 0xFFFFFFFEL);
        due("fourth", numberAt(x, 96, 32), 7);
        due("fifth", numberAt(x, 128, 32), 0x12345678);
        due("bit(160)", x.bit(160), -1);
        due("again", x.feed(0, 0, 0, 0, 0), 320);
        Finder y = full();
        due("full", y.told(0), 9600);
        due("too many", y.feed(0, 0, 0, 0, 0), -4);
        y.drop(0, 160);
        due("just room", y.feed(1, 1, 1, 1, 1), 9600);
        y.drop(0, 159);
        due("one too many", y.feed(1, 1, 1, 1, 1), -4);
        due("nothing changed", y.told(0), 9441);
    }

    static void promise3() {
        Finder x = new Finder();
        due("bits(3, 13)", x.bits(3, 13), 3);
        due("lowest three", numberAt(x, 0, 3), 5);
        due("bits(32, -5)", x.bits(32, -5), 35);
        due("all of it", numberAt(x, 3, 32), 0xFFFFFFFBL);
        due("bits(1, 2)", x.bits(1, 2), 36);
        due("its last", x.bit(35), 0);
        due("bits(0, 1)", x.bits(0, 1), -3);
        due("bits(33, 1)", x.bits(33, 1), -3);
        due("bits(-1, 1)", x.bits(-1, 1), -3);
        Finder y = full();
        due("-3 first", y.bits(0, 0), -3);
        due("-4", y.bits(1, 0), -4);
        y.drop(0, 5);
        due("six", y.bits(6, 0), -4);
        due("five", y.bits(5, 0), 9600);
    }

    static void promise4() {
        Finder x = small();
        x.terms(0, 6);
        due("send", x.send(0x12345678, 5), 0);
        due("bits", x.told(0), 88);
        due("header", numberAt(x, 0, 32), 0x12345678);
        due("check", numberAt(x, 32, 8), x.check(0x12345678));
        due("seed 5", numberAt(x, 40, 8), 196);
        // s: 17860, 711999 (188), ... ; the first 43 load bits are put as they are
        due("next", numberAt(x, 48, 8), ((17860L * 1103 + 12345) % 1000003) % 256);
        long s = 5;
        for (int i = 0; i < 6; i++) {
            s = (s * 1103 + 12345) % 1000003;
        }
        long last = (s % 256) ^ (numberAt(x, 40, 5));
        due("unlike 43 bits ago", numberAt(x, 80, 8), last);
        due("send", x.send(-1, 0), 1);
        due("seed 0", numberAt(x, 128, 8) ^ numberAt(x, 45, 8), 12345 % 256);
        due("seed -1", x.send(1, -1), -3);
        due("seed 1000004", x.send(1, 1000004), -3);
        due("seed 1000003", x.send(1, 1000003), 2);
        Finder y = new Finder();
        for (int i = 0; i < 22; i++) {
            due("cell " + i, y.send(7, i), i);
        }
        due("no room", y.send(7, 1), -4);
        due("-3 first", y.send(7, -1), -3);
        due("bits", y.told(0), 22 * 424);
        Finder v = full();
        v.terms(0, 4);
        v.drop(0, 72);
        due("just room", v.send(7, 1), 0);
        v.drop(0, 71);
        due("one bit short", v.send(7, 1), -4);
        Finder z = sending(64);
        due("64 were sent", z.send(1, 1), -4);
        due("sent", z.told(2), 64);
    }

    static void promise5() {
        Finder x = small();
        due("rest(2)", x.rest(2), 2);
        due("header 1", numberAt(x, 72, 32), 1);
        due("its check", numberAt(x, 104, 8), 82);
        due("byte 106", numberAt(x, 40, 32), 0x6A6A6A6AL);
        due("scrambled", numberAt(x, 112, 32) ^ numberAt(x, 40, 32) >> 11 & 0x1FFFFF, numberAt(x, 112, 11) << 21 | 0x0A6A6AL & 0x1FFFFF);
        due("rest(0)", x.rest(0), -3);
        due("rest(21)", x.rest(21), -3);
        due("rest(20)", x.rest(20), 22);
        due("rest(20)", x.rest(20), 42);
        due("rest(20)", x.rest(20), 62);
        due("rest(3)", x.rest(3), -4);
        due("none then", x.told(2), 62);
        due("rest(2)", x.rest(2), 64);
        due("-3 first", x.rest(0), -3);
        Finder y = new Finder();
        due("rest(20)", y.rest(20), 20);
        due("no room", y.rest(3), -4);
        due("none then", y.told(0), 20 * 424);
        due("room", y.rest(2), 22);
    }

    static void promise6() {
        Finder x = new Finder();
        x.bits(4, 6);
        due("flip(0)", x.flip(0), 1);
        due("flip(0)", x.flip(0), 0);
        due("flip(1)", x.flip(1), 0);
        due("line", numberAt(x, 0, 4), 2);
        due("flip(4)", x.flip(4), -2);
        due("flip(-1)", x.flip(-1), -2);
        x.take(2);
        due("flip(1)", x.flip(1), -5);
        due("flip(2)", x.flip(2), 0);
        due("stays", x.bit(1), 0);
    }

    static void promise7() {
        Finder x = new Finder();
        x.bits(8, 0b10110011);
        due("drop(2, 3)", x.drop(2, 3), 5);
        due("line", numberAt(x, 0, 5), 0b10011);
        due("drop(5, 1)", x.drop(5, 1), -2);
        due("drop(-1, 1)", x.drop(-1, 1), -2);
        due("-2 first", x.drop(5, 0), -2);
        due("drop(0, 0)", x.drop(0, 0), -3);
        due("drop(0, 401)", x.drop(0, 401), -3);
        due("not so many", x.drop(3, 3), -3);
        x.take(2);
        due("-3 first", x.drop(1, 5), -3);
        due("taken", x.drop(1, 1), -5);
        due("drop(2, 3)", x.drop(2, 3), 2);
        due("AT", x.told(1), 2);
        Finder y = full();
        due("401", y.drop(0, 401), -3);
        due("400", y.drop(9200, 400), 9200);
    }

    static void promise8() {
        Finder x = new Finder();
        due("slip into nothing", x.slip(0, 3, 13), 3);
        due("line", numberAt(x, 0, 3), 5);
        due("slip(1, 2, 3)", x.slip(1, 2, 3), 5);
        due("line", numberAt(x, 0, 5), 0b11101);
        due("at the end", x.slip(5, 1, 0), 6);
        due("line", numberAt(x, 0, 6), 0b111010);
        due("behind it", x.slip(7, 1, 0), -2);
        due("-1", x.slip(-1, 1, 0), -2);
        due("-2 first", x.slip(7, 0, 0), -2);
        due("n 0", x.slip(0, 0, 0), -3);
        due("n 33", x.slip(0, 33, 0), -3);
        x.take(3);
        due("-3 first", x.slip(0, 33, 0), -3);
        due("taken", x.slip(2, 1, 0), -5);
        due("at AT", x.slip(3, 32, -1), 38);
        Finder y = full();
        y.take(10);
        due("too many", y.slip(9600, 1, 0), -4);
        due("-4 ahead of -5", y.slip(0, 1, 0), -4);
        due("-3 ahead of -4", y.slip(0, 0, 0), -3);
    }

    static void promise9() {
        Finder x = new Finder();
        x.bits(8, 0);
        due("each", x.disturb(1, 6, 1, 9), 6);
        due("line", numberAt(x, 0, 8), 0b01111110);
        // from 0 on s is 12345, 629041 + ..: odd or even tells which bits become others
        long s = 0;
        long want = 0;
        int many = 0;
        Finder y = new Finder();
        y.feed(0, 0, 0, 0, 0);
        for (int i = 0; i < 40; i++) {
            s = (s * 1103 + 12345) % 1000003;
            want = 2 * want + (s % 3 == 0 ? 1 : 0);
            many += s % 3 == 0 ? 1 : 0;
        }
        due("by 3", y.disturb(5, 40, 3, 0), many);
        due("line", numberAt(y, 5, 40), want);
        due("no such", x.disturb(8, 1, 1, 0), -2);
        due("-2 first", x.disturb(-1, 0, 0, -1), -2);
        due("n 0", x.disturb(0, 0, 1, 0), -3);
        due("n 9", x.disturb(0, 9, 1, 0), -3);
        due("not so many from there on", x.disturb(7, 2, 1, 0), -3);
        due("k 1000", x.disturb(0, 1, 1000, 0), 0);
        due("k 0", x.disturb(0, 1, 0, 0), -3);
        due("k 1001", x.disturb(0, 1, 1001, 0), -3);
        due("seed -1", x.disturb(0, 1, 1, -1), -3);
        due("seed 1000004", x.disturb(0, 1, 1, 1000004), -3);
        due("seed 1000003", x.disturb(0, 1, 1, 1000003), 1);
        x.take(1);
        due("-3 first", x.disturb(0, 9, 1, 0), -3);
        due("taken", x.disturb(0, 1, 1, 0), -5);
        Finder z = full();
        due("2001", z.disturb(0, 2001, 1, 0), -3);
        due("2000", z.disturb(7600, 2000, 1, 0), 2000);
    }

    static void promise10() {
        Finder x = new Finder();
        x.bits(2, 2);
        due("bit(0)", x.bit(0), 1);
        due("bit(1)", x.bit(1), 0);
        due("bit(2)", x.bit(2), -1);
        due("bit(-1)", x.bit(-1), -1);
        due("bit(9600)", x.bit(9600), -1);
        due("bit least", x.bit(Integer.MIN_VALUE), -1);
        x.take(2);
        due("taken", x.bit(0), 1);
    }

    static void promise11() {
        Finder x = sending(4);
        x.take(230);
        int[] before = new int[14];
        for (int i = 0; i < 14; i++) {
            before[i] = x.count(i);
        }
        due("delivered", x.count(3), 2);
        due("empty", x.empty(), 288);
        due("bits", x.told(0), 0);
        due("AT", x.told(1), 0);
        due("sent", x.told(2), 0);
        due("STATE", x.state(0), 2);
        due("of HEADER", x.state(5), 14);
        for (int i = 0; i < 14; i++) {
            due("count(" + i + ")", x.count(i), before[i]);
        }
        for (int i = 0; i < 43; i++) {
            due("sender as at first", x.stage(0, i), 0);
        }
        due("place stays", x.delivered(0, 2), 72);
        due("turn stays", x.turn(1, 0), 112);
        due("found none", x.delivered(0, 3), -1);
        due("lost of none", x.lost(), 0);
        // 14 bits of the header were taken ahead of it, 26 come behind it
        x.bits(18, 103);
        x.bits(8, x.check(103));
        x.take(26);
        due("judged", x.judged(2, 2), 0);
        due("place below 0", x.judged(2, 0), 26 - 40);
        x.feed(0, 0, 0, 0, 0);
        x.take(32);
        due("delivered", x.delivered(2, 0), 103);
        due("its place", x.delivered(2, 2), -14);
        due("strange", x.count(9), 1);
        due("empty", x.empty(), 186);
        due("empty", x.empty(), 0);
    }

    static void promise12() {
        Finder x = new Finder();
        int[] least = {4, 1, 1, 0, 40, 0, 1};
        int[] greatest = {48, 15, 15, 1, 4000, 1, 8};
        for (int i = 0; i < 7; i++) {
            int was = x.told(10 + i);
            due("below", x.terms(i, least[i] - 1), -3);
            due("above", x.terms(i, greatest[i] + 1), -3);
            due("least", x.terms(i, least[i]), was);
            due("told", x.told(10 + i), least[i]);
            due("greatest", x.terms(i, greatest[i]), least[i]);
        }
        due("terms(7, 1)", x.terms(7, 1), -2);
        due("terms(-1, 1)", x.terms(-1, 1), -2);
        Finder y = sending(1);
        due("sent", y.terms(0, 5), -5);
        due("-3 first", y.terms(0, 49), -3);
        due("others may", y.terms(1, 3), 2);
        y.take(72);
        y.empty();
        due("NEAR", y.terms(0, 5), -5);
        Finder z = sending(2);
        z.take(144);
        due("one", z.count(3), 1);
        z.empty();
        z.feed(0, 0, 0, 0, 0);
        z.take(160);
        due("HUNT", z.state(0), 0);
        due("delivered", z.terms(0, 5), -5);
        z.fresh();
        due("fresh", z.terms(0, 5), 4);
        Finder v = sending(1);
        v.take(20);
        v.empty();
        due("HUNT, nothing sent", v.terms(0, 48), 4);
    }

    static void promise13() {
        Finder x = sending(3);
        due("take(0)", x.take(0), -3);
        due("take(9601)", x.take(9601), -3);
        due("take(39)", x.take(39), 0);
        due("take(1)", x.take(1), 1);
        due("take(71)", x.take(71), 1);
        due("take(1)", x.take(1), 2);
        due("AT", x.told(1), 112);
        due("all", x.take(9600), 2);
        due("AT", x.told(1), 216);
        due("nothing more", x.take(1), 2);
        due("AT", x.told(1), 216);
        // hunting by steps of 8: the check at 40 is seen, one bit off it isn't
        Finder y = sending(2);
        y.terms(6, 8);
        due("at 40", y.take(40), 1);
        Finder z = small();
        z.terms(6, 8);
        z.bits(1, 0);
        z.send(100, 1);
        due("at 41", z.take(41), 0);
        // STEP as it is then: 41 is no multiple of 2, 42 is one of 3 and of 2
        Finder v = small();
        v.bits(2, 0);
        v.send(100, 1);
        v.terms(6, 4);
        v.take(41);
        v.terms(6, 3);
        due("at 42", v.take(1), 1);
        // steps count from HUNT on: lost behind 184, 72 bits on is a multiple of 8, of 5 it isn't
        for (int step = 5; step <= 8; step += 3) {
            Finder w = small();
            w.rest(5);
            w.terms(1, 1);
            w.flip(72 * 2 + 2);
            w.take(72 * 2 + 40);
            w.terms(6, step);
            due("by steps of " + step, w.take(72), step == 8 ? 1 : 0);
        }
    }

    static void promise14() {
        Finder x = sending(4);
        x.stages(5, 9);
        x.take(250);
        due("fresh", x.fresh(), 2);
        for (int i = 0; i < 14; i++) {
            due("count(" + i + ")", x.count(i), 0);
        }
        for (int i = 0; i < 11; i++) {
            due("state(" + i + ")", x.state(i), i == 7 ? -1 : 0);
        }
        for (int i = 0; i < 43; i++) {
            due("stage(1, " + i + ")", x.stage(1, i), 0);
        }
        due("AT stays", x.told(1), 250);
        due("terms stay", x.told(12), 1);
        due("delivered", x.delivered(0, 0), -2);
        due("turn", x.turn(0, 0), -2);
        due("judged", x.judged(0, 0), -2);
        due("again", x.fresh(), 0);
        x.send(7, 7);
        x.send(8, 7);
        x.take(9600);
        due("numbered anew", x.delivered(0, 0), 8);
        due("turn", x.turn(0, 0), 328);
        due("alarm", x.state(9), 1);
        x.fresh();
        due("alarm is down", x.state(9), 0);
        // RIGHT, WRONG, MODE, and bits of HUNT by which STEP counts
        Finder y = sending(4);
        y.terms(3, 0);
        y.flip(72 * 2 + 5);
        y.take(72 * 2 + 45);
        due("RIGHT", y.state(1), 1);
        due("WRONG", y.state(2), 1);
        y.fresh();
        due("RIGHT", y.state(1), 0);
        due("WRONG", y.state(2), 0);
        due("MODE", y.state(3), 0);
        Finder z = sending(2);
        z.bits(3, 0);
        z.terms(6, 5);
        z.slip(0, 3, 0);
        z.take(3);
        z.fresh();
        due("steps from FRESH on", z.take(40), 1);
    }

    static void promise15() {
        Finder x = small();
        x.send(3, 5);
        for (int i = 0; i < 32; i++) {
            due("sender's " + i, x.stage(0, i), x.bit(71 - i));
        }
        for (int i = 32; i < 43; i++) {
            due("ahead of all", x.stage(0, i), 0);
        }
        due("receiver's", x.stage(1, 0), 0);
        x.send(4, 6);
        x.take(144);
        for (int i = 0; i < 43; i++) {
            due("like the sender's", x.stage(1, i), x.stage(0, i));
        }
        due("over the header", x.stage(1, 32), x.bit(71));
        due("stage(2, 0)", x.stage(2, 0), -2);
        due("stage(-1, 0)", x.stage(-1, 0), -2);
        due("stage(0, 43)", x.stage(0, 43), -2);
        due("stage(1, -1)", x.stage(1, -1), -2);
    }

    static void promise16() {
        Finder x = sending(2);
        due("stages", x.stages(0x403, 0x80000001), 5);
        for (int i = 0; i < 43; i++) {
            due("stage(1, " + i + ")", x.stage(1, i), i == 0 || i == 1 || i == 10 || i == 11 || i == 42 ? 1 : 0);
        }
        due("-1", x.stages(-1, 0), -3);
        due("2048", x.stages(2048, 0), -3);
        due("unchanged", x.stage(1, 42), 1);
        due("all", x.stages(2047, -1), 43);
        due("none", x.stages(0, 0), 0);
        // the bit of stage 42 is the one that the next load bit is unlike of
        x.take(112);
        x.stages(0, 0);
        x.take(32);
        due("bits as they are", x.load(0, 0), numberAt(x, 112, 8));
        Finder y = sending(2);
        y.take(112);
        y.stages(0, 0x80000000);
        y.take(32);
        due("first bit unlike", y.load(0, 0), numberAt(y, 112, 8) ^ 128);
    }

    static void promise17() {
        Finder x = small();
        x.terms(1, 3);
        x.terms(2, 2);
        x.rest(7);
        x.flip(72 * 3 + 5);
        x.flip(72 * 4 + 6);
        x.take(39);
        due("not 40 yet", x.state(7), -1);
        x.take(1);
        int[] near = {1, 0, 0, 0, 0, 0, 0, 0, 40, 1, 40};
        for (int i = 0; i < 11; i++) {
            due("state(" + i + ") in NEAR", x.state(i), near[i]);
        }
        x.take(31);
        due("of LOAD", x.state(4), 31);
        x.take(1);
        due("of LOAD behind it", x.state(4), 0);
        due("of HEADER", x.state(5), 0);
        x.take(39);
        due("of HEADER and CHECK", x.state(5), 39);
        x.take(1);
        due("RIGHT", x.state(1), 1);
        due("of HEADER behind it", x.state(5), 0);
        x.take(72);
        int[] sure = {2, 2, 0, 1, 0, 0, 1, 0, 184, 1, 1};
        for (int i = 0; i < 11; i++) {
            due("state(" + i + ") in SURE", x.state(i), sure[i]);
        }
        x.take(31);
        due("GOOD", x.state(6), 1);
        x.take(1);
        due("no LOAD taken", x.state(6), 0);
        x.take(7);
        due("STILL", x.state(10), 40);
        due("ALARM down", x.state(9), 0);
        x.take(33);
        due("WRONG", x.state(2), 1);
        due("SEEING", x.state(3), 0);
        due("mended is GOOD", x.state(6), 1);
        due("SYNDROME", x.state(7), NaiveFinder.made(5));
        x.take(72);
        due("WRONG", x.state(2), 2);
        due("dropped isn't", x.state(6), 0);
        x.take(72);
        due("WRONG again 0", x.state(2), 0);
        due("MENDING", x.state(3), 1);
        // RIGHT is 0 again as it comes to NEAR anew
        Finder y = small();
        y.terms(2, 3);
        y.rest(5);
        y.flip(72 * 2 + 2);
        y.take(72 * 2 + 40);
        due("RIGHT as it was told", y.state(1), 1);
        due("HUNT", y.state(0), 0);
        y.take(72);
        due("NEAR", y.state(0), 1);
        due("RIGHT", y.state(1), 0);
        // by HUNT MODE stays as it was told
        Finder z = sending(3);
        z.terms(1, 1);
        z.flip(72 * 2 + 2);
        z.take(72 * 2 + 40);
        due("HUNT", z.state(0), 0);
        due("WRONG", z.state(2), 1);
        due("MODE", z.state(3), 1);
        due("state(11)", x.state(11), -2);
        due("state(-1)", x.state(-1), -2);
    }

    static void promise18() {
        Finder x = small();
        x.terms(5, 1);
        x.send(7, 1);
        x.rest(2);
        x.send(8, 2);
        x.send(9, 3);
        x.send(10, 4);
        x.send(11, 5);
        x.flip(72 * 3 + 1);
        x.flip(72 * 5 + 1);
        x.flip(72 * 5 + 2);
        x.flip(72 * 4 + 50);
        x.take(9600);
        // checks 1, 2 right, 3 mended, 4 right (its load strange), 5 dropped, 6 right
        int[] first = {4, 1, 1, 3, 1, 0, 40, 2, 6, 1, 2, 1, 72, 72 * 5 + 32};
        for (int i = 0; i < 14; i++) {
            due("count(" + i + ")", x.count(i), first[i]);
        }
        x.empty();
        x.feed(0, 0, 0, 0, 0);
        x.take(160);
        // two wrong checks: one mended, by the other it is lost; the rest is hunted through
        due("left SURE", x.count(5), 1);
        due("turns", x.count(7), 3);
        due("bits in SURE", x.count(13), 72 * 5 + 32 + 112);
        due("bits in HUNT", x.count(6), 40 + 48);
        due("alarm again", x.count(11), 2);
        due("count(14)", x.count(14), -2);
        due("count(-1)", x.count(-1), -2);
    }

    static void promise19() {
        Finder x = sending(15);
        x.flip(72 * 2 + 31);
        x.take(9600);
        due("in all", x.count(3), 14);
        due("too old", x.delivered(1, 0), -2);
        due("the oldest kept", x.delivered(2, 0), 103);
        due("its place", x.delivered(2, 2), 216);
        due("found", x.delivered(2, 3), 3);
        due("the latest", x.delivered(13, 0), 114);
        due("no more", x.delivered(14, 0), -2);
        due("-1", x.delivered(-1, 0), -2);
        due("what 4", x.delivered(2, 4), -2);
        due("what -1", x.delivered(2, -1), -2);
        Finder y = sending(4);
        y.flip(72 * 2 + 31);
        y.flip(72 * 3 + 45);
        y.take(9600);
        due("mended", y.delivered(1, 1), 1);
        due("header as mended", y.delivered(1, 0), 102);
        due("found", y.delivered(1, 3), 2);
        due("not mended", y.delivered(0, 1), 0);
        due("not mended either", y.delivered(2, 1), 0);
        due("strange", y.delivered(2, 3), -1);
        // FOUND is of what is SENT now, and the first of like ones
        Finder z = small();
        z.rest(4);
        z.take(9600);
        due("the first of like ones", z.delivered(2, 3), 0);
        z.empty();
        due("none now", z.delivered(2, 3), -1);
        z.send(5, 5);
        z.rest(1);
        due("another now", z.delivered(2, 3), 1);
        due("strange were none", z.count(9), 0);
    }

    static void promise20() {
        Finder x = small();
        x.terms(0, 7);
        x.rest(1);
        x.send(9, 5);
        x.send(9, 1000003);
        x.take(9600);
        long s = 5;
        for (int i = 0; i < 7; i++) {
            s = (s * 1103 + 12345) % 1000003;
            due("load(0, " + i + ")", x.load(0, i), s % 256);
        }
        due("its first", x.load(0, 0), 196);
        due("load(1, 0)", x.load(1, 0), 12345 % 256);
        due("not so many", x.load(0, 7), -1);
        due("-1", x.load(0, -1), -1);
        due("load(2, 0)", x.load(2, 0), -2);
        due("load(-1, 0)", x.load(-1, 0), -2);
        due("-2 first", x.load(2, 99), -2);
        Finder y = sending(15);
        y.take(9600);
        due("not kept", y.load(1, 0), -2);
        due("kept", y.load(2, 0), (3 * 1103 + 12345) % 256);
        due("the latest", y.load(13, 0), (14 * 1103 + 12345) % 256);
    }

    static void promise21() {
        Finder x = small();
        x.rest(1);
        x.send(0xABCDEF97, 5);
        x.send(0x12345678, 5);
        x.take(9600);
        int[] first = {0xA, 0xBC, 0xDEF9, 3, 1};
        int[] second = {1, 0x23, 0x4567, 4, 0};
        for (int i = 0; i < 5; i++) {
            due("field(0, " + i + ")", x.field(0, i), first[i]);
            due("field(1, " + i + ")", x.field(1, i), second[i]);
        }
        due("what 5", x.field(0, 5), -2);
        due("what -1", x.field(0, -1), -2);
        due("none such", x.field(2, 0), -2);
        due("-1", x.field(-1, 0), -2);
        Finder y = sending(14);
        y.take(9600);
        due("not kept", y.field(0, 4), -2);
        due("kept", y.field(1, 4), 102 % 2);
    }

    static void promise22() {
        Finder x = sending(6);
        x.flip(72 * 2 + 39);
        x.flip(72 * 3 + 39);
        x.take(9600);
        due("right", x.judged(0, 2), 0);
        due("its place", x.judged(0, 0), 72);
        due("its SYNDROME", x.judged(0, 1), 0);
        due("mended", x.judged(1, 2), 1);
        due("its SYNDROME", x.judged(1, 1), 1);
        due("lost", x.judged(2, 2), 3);
        due("its place", x.judged(2, 0), 216);
        due("then a hunt", x.judged(3, 0), 72 * 5);
        due("what 3", x.judged(0, 3), -2);
        due("what -1", x.judged(0, -1), -2);
        due("none such", x.judged(4, 0), -2);
        due("-1", x.judged(-1, 0), -2);
        Finder y = sending(5);
        y.terms(1, 9);
        y.flip(72 * 2 + 3);
        y.flip(72 * 3 + 3);
        y.take(9600);
        due("MENDING", y.judged(1, 2), 1);
        due("SEEING", y.judged(2, 2), 2);
        Finder z = sending(5);
        z.terms(1, 9);
        z.terms(3, 0);
        z.flip(72 * 2 + 3);
        z.take(9600);
        due("no MENDS", z.judged(1, 2), 2);
        Finder v = sending(40);
        v.take(9600);
        due("not kept", v.judged(6, 0), -2);
        due("kept", v.judged(7, 0), 72 * 8);
        due("the latest", v.judged(38, 0), 72 * 39);
        Finder w = sending(3);
        w.flip(72 + 2);
        w.take(112);
        due("NEAR to HUNT", w.judged(0, 2), 3);
    }

    static void promise23() {
        Finder x = sending(6);
        x.flip(72 * 2 + 39);
        x.flip(72 * 3 + 39);
        x.take(9600);
        int[][] turns = {{40, 0, 1}, {112, 1, 2}, {256, 2, 0}, {328, 0, 1}, {400, 1, 2}};
        for (int k = 0; k < turns.length; k++) {
            for (int what = 0; what < 3; what++) {
                due("turn(" + k + ", " + what + ")", x.turn(k, what), turns[k][what]);
            }
        }
        due("none such", x.turn(5, 0), -2);
        due("-1", x.turn(-1, 0), -2);
        due("what 3", x.turn(0, 3), -2);
        due("what -1", x.turn(0, -1), -2);
        // each second header wrong: NEAR, HUNT, NEAR, HUNT ..
        Finder y = small();
        y.rest(20);
        y.rest(20);
        y.rest(16);
        for (int i = 1; i < 56; i += 2) {
            y.flip(72 * i + 2);
        }
        y.take(9600);
        due("turns", y.count(7), 56);
        due("not kept", y.turn(31, 0), -2);
        due("kept", y.turn(32, 0), 72 * 32 + 40);
        due("from", y.turn(33, 1), 1);
        due("to", y.turn(33, 2), 0);
    }

    static void promise24() {
        Finder x = sending(5);
        due("all", x.lost(), 5);
        x.take(72 * 3);
        due("lost", x.lost(), 3);
        x.take(9600);
        due("the first is lost", x.lost(), 1);
        x.fresh();
        due("fresh", x.lost(), 5);
        Finder y = sending(20);
        y.take(9600);
        due("only those kept", y.lost(), 8);
        Finder z = small();
        z.rest(9);
        z.take(9600);
        due("like ones", z.lost(), 8);
        due("nothing sent", new Finder().lost(), 0);
        Finder v = sending(64);
        v.take(9600);
        due("the last of 64", v.lost(), 52);
    }

    static void promise25() {
        Finder x = sending(4);
        x.take(5);
        due("look(0)", x.look(0), 0);
        due("look(34)", x.look(34), 0);
        due("look(35)", x.look(35), 1);
        due("look(106)", x.look(106), 1);
        due("look(107)", x.look(107), 2);
        due("look(9600)", x.look(9600), 2);
        due("look(-1)", x.look(-1), -3);
        due("look(9601)", x.look(9601), -3);
        due("AT", x.told(1), 5);
        due("bits taken", x.state(8), 5);
        due("nothing counted", x.count(7), 0);
        due("nothing kept", x.turn(0, 0), -2);
    }

    static void promise26() {
        Finder x = small();
        x.rest(4);
        due("until(0)", x.until(0), 0);
        due("until(1)", x.until(1), 40);
        due("until(2)", x.until(2), 112);
        due("until(3)", x.until(3), -3);
        due("until(-1)", x.until(-1), -3);
        x.take(100);
        due("NEAR", x.until(1), 0);
        due("SURE", x.until(2), 12);
        due("HUNT never", x.until(0), -1);
        x.flip(106);
        due("HUNT", x.until(0), 12);
        due("then SURE", x.until(2), 72 * 3 + 40 - 100);
        due("AT", x.told(1), 100);
        Finder y = sending(1);
        due("ends ahead of it", y.until(2), -1);
        due("nothing there", new Finder().until(2), -1);
        Finder z = sending(2);
        z.drop(112, 32);
        due("with the last bit", z.until(2), 112);
        z.drop(111, 1);
        due("one bit short", z.until(2), -1);
        // on paper it goes on just as it would: hunting by steps, nearly sure, seeing
        Finder v = sending(2);
        v.slip(0, 3, 0);
        v.terms(6, 5);
        v.take(2);
        due("43 is no step, 115 is one", v.until(1), 115 - 2);
        v.terms(6, 1);
        v.take(60);
        due("RIGHT goes on", v.until(2), 112 + 3 - 62);
    }

    static void promise27() {
        Finder x = sending(6);
        x.take(150);
        due("header bit: delivered", x.would(72 * 3 + 4, 0), 5);
        due("mended", x.would(72 * 3 + 4, 1), 1);
        due("dropped", x.would(72 * 3 + 4, 2), 0);
        due("left", x.would(72 * 3 + 4, 3), 0);
        due("STATE", x.would(72 * 3 + 4, 4), 2);
        due("strange", x.would(72 * 3 + 4, 5), 0);
        due("load bit: strange", x.would(72 * 3 + 40, 5), 2);
        Finder y = sending(6);
        y.terms(1, 3);
        y.flip(72 * 2 + 5);
        y.take(72 * 2 + 50);
        due("SEEING: dropped", y.would(72 * 3 + 4, 2), 1);
        due("GOOD: delivered", y.would(72 * 3 + 4, 0), 4);
        y.terms(1, 2);
        due("WRONG goes on", y.would(72 * 3 + 4, 3), 1);
        Finder z = small();
        z.terms(2, 2);
        z.rest(4);
        z.take(120);
        due("RIGHT goes on", z.would(72 * 3 + 71, 0), 2);
        x.terms(3, 0);
        due("dropped", x.would(72 * 3 + 4, 2), 1);
        due("delivered", x.would(72 * 3 + 4, 0), 4);
        x.terms(1, 1);
        due("left", x.would(72 * 3 + 4, 3), 1);
        due("the last header", x.would(72 * 5 + 4, 4), 0);
        due("taken", x.would(149, 0), -5);
        due("not taken", x.would(150, 0) >= 0 ? 1 : 0, 1);
        due("none such", x.would(432, 0), -2);
        due("-1", x.would(-1, 0), -2);
        due("what 6", x.would(200, 6), -2);
        due("-2 first", x.would(0, -1), -2);
        due("nothing taken", x.told(1), 150);
        due("nothing flipped", x.flip(72 * 3 + 4), 1);
        due("count", x.count(3), 1);
    }

    static void promise28() {
        Finder x = sending(6);
        x.take(112 + 32);
        // nothing is mended: the first bit of the header is as bad as all of it
        x.terms(3, 0);
        due("worst", x.worst(), 144);
        Finder y = sending(6);
        y.take(112);
        y.terms(3, 0);
        due("behind the load", y.worst(), 144);
        due("AT", y.told(1), 112);
        Finder z = sending(6);
        z.take(112);
        due("all alike: the first", z.worst(), 112);
        due("none there", new Finder().worst(), -1);
        Finder v = small();
        v.bits(3, 0);
        v.take(2);
        due("only one", v.worst(), 2);
        v.take(1);
        due("none left", v.worst(), -1);
        // 48 bits and no more: the header begins behind them
        Finder w = small();
        w.terms(0, 10);
        w.terms(3, 0);
        for (int i = 0; i < 5; i++) {
            w.send(20 + i, i);
        }
        w.take(120 + 40 + 31);
        due("not seen yet", w.worst(), 191);
        w.take(2);
        due("seen", w.worst(), 240);
    }

    static void promise29() {
        Finder x = sending(8);
        due("from HUNT, header lost", x.regained(1), 72 * 2 + 40 - 1);
        x.take(72 * 3);
        due("SURE: a whole cell less", x.regained(72), -1);
        Finder y = sending(8);
        y.terms(1, 1);
        y.take(216);
        // behind 3 lost bits the header at 216 is read three bits late and looks wrong;
        // it hunts, finds 288 + 40 and is sure behind 360 + 40
        due("three bits", y.regained(3), 400 - 219);
        due("n 0", y.regained(0), -3);
        due("n 401", y.regained(401), -3);
        due("not so many", y.regained(361), -3);
        due("all", y.regained(360), -1);
        due("nothing lost", y.told(0), 576);
        due("AT", y.told(1), 216);
        due("none there", new Finder().regained(1), -3);
        Finder z = sending(16);
        due("400", z.regained(400), 72 * 7 + 40 - 400);
        Finder v = small();
        v.bits(1, 0);
        v.rest(2);
        v.drop(113, 32);
        due("with the last bit", v.regained(1), 112);
        v.drop(112, 1);
        due("one bit short", v.regained(1), -1);
        due("401", z.regained(401), -3);
    }

    static void promise30() {
        Finder x = sending(5);
        x.take(112);
        // load of cell 1 is 112 to 143, of cell 2 184 to 215, of cell 3 256 on
        due("how many", x.spread(113, -1), 2);
        due("itself", x.spread(113, 0), 113);
        due("43 load bits on", x.spread(113, 1), 184 + 43 - 31);
        due("no more", x.spread(113, 2), -1);
        due("at the end of it", x.spread(143, 1), 256 + 43 - 33);
        due("the last one", x.spread(359, -1), 1);
        due("the first one", x.spread(112, -1), 2);
        due("43 load bits on", x.spread(112, 1), 184 + 43 - 32);
        due("a header bit", x.spread(150, -1), 0);
        due("a header bit", x.spread(150, 0), -1);
        due("none such", x.spread(360, -1), -2);
        due("-1", x.spread(-1, -1), -2);
        due("k -2", x.spread(113, -2), -3);
        due("-3 ahead of -5", x.spread(0, -2), -3);
        due("taken", x.spread(111, -1), -5);
        due("AT", x.told(1), 112);
    }

    static void promise31() {
        Finder x = small();
        x.bits(5, 0);
        x.rest(4);
        due("all", x.rights(0, 293, -1), 4);
        due("the second", x.rights(0, 293, 1), 77);
        due("no fifth", x.rights(0, 293, 4), -1);
        due("n 5", x.rights(0, 5, -1), 0);
        due("n 6", x.rights(0, 6, -1), 1);
        due("n 6, which", x.rights(0, 6, 0), 5);
        due("from 6", x.rights(6, 71, -1), 0);
        due("from 6", x.rights(6, 72, 0), 77);
        due("behind the end", x.rights(292, 2000, -1), 0);
        due("taken or not", x.take(100) + x.rights(5, 1, -1), 1 + 1);
        due("none such", x.rights(293, 1, -1), -2);
        due("-1", x.rights(-1, 1, -1), -2);
        due("-2 first", x.rights(293, 0, -9), -2);
        due("n 0", x.rights(0, 0, -1), -3);
        due("n 2001", x.rights(0, 2001, -1), -3);
        due("n 2000", x.rights(0, 2000, -1), 4);
        due("k -2", x.rights(0, 1, -2), -3);
        // all forty must be there
        x.drop(5 + 3 * 72 + 39, 33);
        due("39 of 40", x.rights(0, 2000, -1), 3);
        x.bits(1, 0);
        due("the fortieth", x.rights(0, 2000, -1), 4);
    }

    static void promise32() {
        Finder x = small();
        x.bits(5, 0);
        x.rest(4);
        due("phase", x.phase(0), 5);
        due("how many", x.phase(1), 4);
        x.take(6);
        due("from AT on", x.phase(0), 71);
        due("how many", x.phase(1), 3);
        x.take(71);
        due("at AT itself", x.phase(0), 0);
        due("how many", x.phase(1), 3);
        due("what 2", x.phase(2), -2);
        due("what -1", x.phase(-1), -2);
        Finder y = new Finder();
        due("none", y.phase(0), -1);
        due("none", y.phase(1), -1);
        y.feed(0, 0, 0, 0, 0);
        due("none looks right", y.phase(1), -1);
        Finder v = small();
        v.bits(1, 1);
        v.rest(1);
        v.drop(41, 32);
        due("with the last bit", v.phase(0), 1);
        v.drop(40, 1);
        due("one bit short", v.phase(0), -1);
        // two phases with two each: the first of like ones, though the other comes ahead of it
        Finder z = small();
        z.bits(10, 0);
        z.rest(2);
        z.drop(150, 4);
        z.bits(30, 0);
        z.drop(150, 30);
        z.slip(150, 32, 0);
        z.slip(150, 32, 0);
        z.drop(150, 61);
        z.rest(2);
        due("how many", z.phase(1), 2);
        due("the first", z.phase(0), Math.min(10, 153 % 72));
    }

    static void promise33() {
        Finder x = sending(10);
        x.take(112);
        // two wrong headers in a row: from 3 on it isn't lost by them
        x.flip(72 * 4 + 1);
        x.flip(72 * 5 + 1);
        due("ALPHA", x.tuned(1), 3);
        due("MENDS", x.tuned(3), 1);
        x.flip(72 * 4 + 1);
        x.flip(72 * 5 + 1);
        due("MENDS: all alike", x.tuned(3), 0);
        due("DELTA: all alike", x.tuned(2), 1);
        due("tuned(0)", x.tuned(0), -2);
        due("tuned(4)", x.tuned(4), -2);
        due("terms stay", x.told(11), 2);
        due("AT", x.told(1), 112);
        // from HUNT on a smaller DELTA delivers more
        Finder y = sending(10);
        y.terms(2, 9);
        due("DELTA", y.tuned(2), 1);
        // strange ones count twice against: by stages() all loads are other ones till it is sure
        Finder z = sending(2);
        z.stages(2047, -1);
        due("one strange", z.tuned(2), 2);
        due("nothing there", new Finder().tuned(2), 1);
        // by MENDS 1 one more is delivered as sent, one as a strange one: twice that is alike
        Finder v = sending(14);
        v.take(112);
        v.flip(72 * 5 + 1);
        v.flip(72 * 7 + 1);
        v.flip(72 * 7 + 40 + 5);
        due("one for one strange", v.tuned(3), 0);
        v.flip(72 * 3 + 1);
        due("two for one strange", v.tuned(3), 1);
    }

    static void promise34() {
        Finder x = small();
        x.rest(6);
        due("all sure", x.starts(0), 64);
        due("first behind 112, others behind 184 less i", x.starts(1), 112 + 63 * 184 - 63 * 64 / 2);
        due("the most", x.starts(2), 183);
        due("none fell", x.starts(3), 0);
        due("what 4", x.starts(4), -2);
        due("what -1", x.starts(-1), -2);
        due("AT", x.told(1), 0);
        x.flip(72 + 3);
        due("fell", x.starts(3), 1);
        due("it was sure later", x.starts(2), 256);
        Finder y = small();
        y.rest(2);
        due("only the first", y.starts(0), 1);
        due("its bits", y.starts(1), 112);
        due("the most", y.starts(2), 112);
        y.take(1);
        due("none", y.starts(0), 0);
        due("none", y.starts(2), 0);
        due("nothing there", new Finder().starts(1), 0);
        // FRESH ones, whatever STATE is
        Finder z = small();
        z.rest(6);
        z.take(72 * 3);
        due("from AT on", z.starts(2), 183);
        due("the last ones are short", z.starts(0), 64);
    }

    static void promise35() {
        Finder x = new Finder();
        due("check(0)", x.check(0), 85);
        due("check(1)", x.check(1), 7 ^ 85);
        due("check(2)", x.check(2), 14 ^ 85);
        due("check(32)", x.check(32), 224 ^ 85);
        due("check(64)", x.check(64), (448 ^ 263) ^ 85);
        due("check(3)", x.check(3), 7 ^ 14 ^ 85);
        for (int i = 0; i < 32; i++) {
            due("check of bit " + i, x.check(1 << i), NaiveFinder.restOf(1L << (i + 8)) ^ 85);
        }
        due("check(-1)", x.check(-1), NaiveFinder.checkOf(-1));
    }

    static void promise36() {
        Finder x = new Finder();
        due("right", x.syndrome(1, 82), 0);
        due("one off", x.syndrome(1, 83), 1);
        due("syndrome(0, 0)", x.syndrome(0, 0), 85);
        due("syndrome(0, 255)", x.syndrome(0, 255), 170);
        due("-1", x.syndrome(0, -1), -3);
        due("256", x.syndrome(0, 256), -3);
    }

    static void promise37() {
        Finder x = new Finder();
        int singles = 0;
        for (int s = 0; s < 256; s++) {
            singles += x.single(s) >= 0 ? 1 : 0;
        }
        due("forty of them", singles, 40);
        for (int i = 0; i < 40; i++) {
            due("bit " + i, x.single(NaiveFinder.made(i)), i);
        }
        due("single(0)", x.single(0), -1);
        due("single(3)", x.single(3), -1);
        due("-1", x.single(-1), -3);
        due("256", x.single(256), -3);
    }

    static void promise38() {
        Finder x = sending(8);
        x.terms(1, 1);
        x.take(216);
        // by 1 to 64 lost ones it hunts at 256 and n, and is sure again behind 400
        due("the most", x.latest(0), 400 - 217);
        due("by one", x.latest(1), 1);
        due("by how many", x.latest(2), 64);
        due("what 3", x.latest(3), -2);
        due("what -1", x.latest(-1), -2);
        due("AT", x.told(1), 216);
        Finder y = small();
        y.bits(10, 0);
        due("NONE", y.latest(0), -1);
        due("NONE", y.latest(1), -1);
        due("none", y.latest(2), 0);
        // rest cells, the first bits of which are lost: only the cell behind counts
        Finder z = small();
        z.bits(30, 0);
        z.rest(2);
        due("up to 30 lost ones", z.latest(2), 30);
        due("the most", z.latest(0), 30 + 112 - 1);
        due("the fewest of them", z.latest(1), 1);
    }

    static void promise39() {
        int all = 0;
        for (int s = 0; s < 256; s++) {
            Finder x = new Finder();
            int many = x.pairs(s, -1);
            all += many;
            int before = -1;
            for (int k = 0; k < many; k++) {
                int pair = x.pairs(s, k);
                due("pair " + pair, NaiveFinder.made(pair / 100, pair % 100), s);
                due("a ahead of b", pair / 100 < pair % 100 ? 1 : 0, 1);
                due("rising", pair > before ? 1 : 0, 1);
                before = pair;
            }
            due("not so many", x.pairs(s, many), -1);
        }
        due("all pairs", all, 780);
        Finder x = new Finder();
        due("-1", x.pairs(-1, 0), -3);
        due("256", x.pairs(256, 0), -3);
        due("k -2", x.pairs(3, -2), -3);
    }

    static void promise40() {
        NaiveFinder naive = new NaiveFinder();
        for (int s = 0; s < 256; s++) {
            Finder x = new Finder();
            int many = naive.nearest(s, -1);
            due("nearest(" + s + ", -1)", x.nearest(s, -1), many);
            for (int k = 0; k <= many; k++) {
                due("nearest(" + s + ", " + k + ")", x.nearest(s, k), naive.nearest(s, k));
            }
        }
        Finder x = new Finder();
        due("-1", x.nearest(-1, 0), -3);
        due("256", x.nearest(256, 0), -3);
        due("k -2", x.nearest(3, -2), -3);
        due("k far", x.nearest(3, Integer.MAX_VALUE), -1);
    }

    static void promise41() {
        Finder x = new Finder();
        int header = 0xDEADBEEF;
        int check = x.check(header);
        due("right", x.mending(header, check, 0), 0);
        due("its header", x.mending(header, check, 1), header);
        due("its check", x.mending(header, check, 2), check);
        for (int i = 0; i < 32; i++) {
            due("mended", x.mending(header ^ 1 << i, check, 0), 1);
            due("its header", x.mending(header ^ 1 << i, check, 1), header);
            due("its check", x.mending(header ^ 1 << i, check, 2), check);
        }
        for (int i = 0; i < 8; i++) {
            due("mended", x.mending(header, check ^ 1 << i, 0), 1);
            due("its header", x.mending(header, check ^ 1 << i, 1), header);
            due("its check", x.mending(header, check ^ 1 << i, 2), check);
        }
        due("two bits", x.mending(header ^ 3, check, 0), 2);
        due("as it was", x.mending(header ^ 3, check, 1), header ^ 3);
        due("as it was", x.mending(header ^ 3, check, 2), check);
        due("what 3", x.mending(header, check, 3), -2);
        due("what -1", x.mending(header, check, -1), -2);
        due("-2 first", x.mending(header, 256, 3), -2);
        due("check 256", x.mending(header, 256, 0), -3);
        due("check -1", x.mending(header, -1, 0), -3);
    }

    static void promise42() {
        Finder x = new Finder();
        long all = 0;
        NaiveFinder naive = new NaiveFinder();
        for (int w = 0; w <= 40; w++) {
            due("words(" + w + ")", x.words(w), naive.words(w));
            all += x.words(w);
        }
        due("one header each", all, 1L << 32);
        due("words(-1)", x.words(-1), -3);
        due("words(41)", x.words(41), -3);
    }

    static void promise43() {
        Finder x = new Finder();
        NaiveFinder naive = new NaiveFinder();
        for (int w = 0; w <= 40; w++) {
            for (int what = 0; what < 3; what++) {
                due("cases(" + w + ", " + what + ")", x.cases(w, what), naive.cases(w, what));
            }
        }
        due("what 3", x.cases(0, 3), -2);
        due("-2 first", x.cases(41, -1), -2);
        due("w 41", x.cases(41, 0), -3);
        due("w -1", x.cases(-1, 0), -3);
    }

    static void promise44() {
        Finder x = new Finder();
        NaiveFinder naive = new NaiveFinder();
        for (int w = 0; w <= 40; w++) {
            for (int what = 0; what < 5; what++) {
                due("unseen(" + w + ", " + what + ")", x.unseen(w, what), naive.unseen(w, what));
            }
        }
        due("all rows", x.unseen(20, 1), 137846528820L);
        due("what 5", x.unseen(0, 5), -2);
        due("-2 first", x.unseen(41, -1), -2);
        due("w 41", x.unseen(41, 0), -3);
        due("w -1", x.unseen(-1, 0), -3);
    }

    static void promise45() {
        NaiveFinder naive = new NaiveFinder();
        for (int term = 1; term <= 15; term++) {
            Finder x = byTerm(term);
            naive.terms(1, term);
            naive.terms(2, term);
            for (int n = 0; n <= 7; n++) {
                for (int w = 0; w <= 256; w += term < 8 ? 1 : 64) {
                    x = x.callsLeft() < 10 ? byTerm(term) : x;
                    for (int i = 0; i < 10; i++) {
                        long want = naive.odds(i / 5, n, w, i % 5);
                        due("odds(" + i / 5 + ", " + n + ", " + w + ", " + i % 5 + ")", x.odds(i / 5, n, w, i % 5), want);
                    }
                }
            }
        }
        Finder x = new Finder();
        due("which 2", x.odds(2, 0, 0, 0), -2);
        due("which -1", x.odds(-1, 0, 0, 0), -2);
        due("what 5", x.odds(0, 0, 0, 5), -2);
        due("-2 first", x.odds(0, 8, 0, -1), -2);
        due("n 8", x.odds(0, 8, 0, 0), -3);
        due("n -1", x.odds(0, -1, 0, 0), -3);
        due("w 257", x.odds(0, 0, 257, 0), -3);
        due("w -1", x.odds(0, 0, -1, 0), -3);
    }

    static void promise46() {
        NaiveFinder naive = new NaiveFinder();
        for (int term = 1; term <= 15; term++) {
            Finder x = byTerm(term);
            naive.terms(1, term);
            naive.terms(2, term);
            for (int w = 0; w <= 256; w++) {
                x = x.callsLeft() < 4 ? byTerm(term) : x;
                for (int i = 0; i < 4; i++) {
                    due("mean(" + i / 2 + ", " + w + ", " + i % 2 + ")", x.mean(i / 2, w, i % 2), naive.mean(i / 2, w, i % 2));
                }
            }
        }
        Finder x = byTerm(15);
        due("q is 0", x.mean(0, 256, 0), -5);
        due("p is 0", x.mean(1, 0, 0), -5);
        due("p is 1", x.mean(1, 256, 0), 0x40300000);
        due("which 2", x.mean(2, 0, 0), -2);
        due("part 2", x.mean(0, 0, 2), -2);
        due("-2 first", x.mean(0, 257, -1), -2);
        due("w 257", x.mean(0, 257, 0), -3);
        due("w -1", x.mean(1, -1, 0), -3);
    }

    static void promise47() {
        NaiveFinder naive = new NaiveFinder();
        for (int term = 1; term <= 9; term++) {
            Finder x = byTerm(term);
            naive.terms(1, term);
            naive.terms(2, term);
            for (int w = 0; w <= 256; w++) {
                x = x.callsLeft() < 2 ? byTerm(term) : x;
                due("half(0, " + w + ")", x.half(0, w), naive.half(0, w));
                due("half(1, " + w + ")", x.half(1, w), naive.half(1, w));
            }
        }
        Finder x = byTerm(1);
        due("just a half", x.half(0, 128), 1);
        due("just below", x.half(0, 129), 2);
        due("none", x.half(0, 256), -1);
        due("which 2", x.half(2, 0), -2);
        due("-2 first", x.half(-1, 257), -2);
        due("w 257", x.half(0, 257), -3);
        due("w -1", x.half(1, -1), -3);
    }

    static void promise48() {
        Finder x = sending(3);
        x.take(50);
        due("bits", x.told(0), 216);
        due("AT", x.told(1), 50);
        due("SENT", x.told(2), 3);
        int[] terms = {4, 2, 1, 1, 40, 0, 1};
        for (int i = 0; i < 7; i++) {
            due("told(" + (10 + i) + ")", x.told(10 + i), terms[i]);
        }
        for (int what : new int[] {-1, 3, 9, 17, Integer.MIN_VALUE, Integer.MAX_VALUE}) {
            due("told(" + what + ")", x.told(what), -1);
        }
    }
}
