/**
 * One CellFinder whose calls are counted. What it answers behind its 512th call is
 * free, so a test that asks further is itself at fault and is told so.
 */
final class Finder {
    static final int CALLS = 512;
    private final CellFinder finder = new CellFinder();
    private int calls;

    private CellFinder next() {
        if (calls == CALLS) {
            throw new IllegalStateException("the test makes more than " + CALLS + " calls on one object");
        }
        calls++;
        return finder;
    }

    int callsLeft() {
        return CALLS - calls;
    }

    int feed(int a, int b, int c, int d, int e) {
        return next().feed(a, b, c, d, e);
    }

    int bits(int n, int v) {
        return next().bits(n, v);
    }

    int send(int header, int seed) {
        return next().send(header, seed);
    }

    int rest(int n) {
        return next().rest(n);
    }

    int flip(int i) {
        return next().flip(i);
    }

    int drop(int i, int n) {
        return next().drop(i, n);
    }

    int slip(int i, int n, int v) {
        return next().slip(i, n, v);
    }

    int disturb(int i, int n, int k, int seed) {
        return next().disturb(i, n, k, seed);
    }

    int bit(int i) {
        return next().bit(i);
    }

    int empty() {
        return next().empty();
    }

    int terms(int what, int v) {
        return next().terms(what, v);
    }

    int take(int n) {
        return next().take(n);
    }

    int fresh() {
        return next().fresh();
    }

    int stage(int who, int i) {
        return next().stage(who, i);
    }

    int stages(int a, int b) {
        return next().stages(a, b);
    }

    int state(int what) {
        return next().state(what);
    }

    int count(int what) {
        return next().count(what);
    }

    int delivered(int k, int what) {
        return next().delivered(k, what);
    }

    int load(int k, int i) {
        return next().load(k, i);
    }

    int field(int k, int what) {
        return next().field(k, what);
    }

    int judged(int k, int what) {
        return next().judged(k, what);
    }

    int turn(int k, int what) {
        return next().turn(k, what);
    }

    int lost() {
        return next().lost();
    }

    int look(int n) {
        return next().look(n);
    }

    int until(int state) {
        return next().until(state);
    }

    int would(int i, int what) {
        return next().would(i, what);
    }

    int worst() {
        return next().worst();
    }

    int regained(int n) {
        return next().regained(n);
    }

    int spread(int i, int k) {
        return next().spread(i, k);
    }

    int rights(int i, int n, int k) {
        return next().rights(i, n, k);
    }

    int phase(int what) {
        return next().phase(what);
    }

    int tuned(int what) {
        return next().tuned(what);
    }

    int starts(int what) {
        return next().starts(what);
    }

    int check(int header) {
        return next().check(header);
    }

    int syndrome(int header, int check) {
        return next().syndrome(header, check);
    }

    int single(int syndrome) {
        return next().single(syndrome);
    }

    int latest(int what) {
        return next().latest(what);
    }

    int pairs(int syndrome, int k) {
        return next().pairs(syndrome, k);
    }

    int nearest(int syndrome, int k) {
        return next().nearest(syndrome, k);
    }

    int mending(int header, int check, int what) {
        return next().mending(header, check, what);
    }

    long words(int w) {
        return next().words(w);
    }

    long cases(int w, int what) {
        return next().cases(w, what);
    }

    long unseen(int w, int what) {
        return next().unseen(w, what);
    }

    long odds(int which, int n, int w, int what) {
        return next().odds(which, n, w, what);
    }

    long mean(int which, int w, int part) {
        return next().mean(which, w, part);
    }

    int half(int which, int w) {
        return next().half(which, w);
    }

    int told(int what) {
        return next().told(what);
    }
}
