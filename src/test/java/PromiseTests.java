// One method for each promise of the document, in its order: ordinary
// inputs, the edges that the document names, and wrong inputs.
public final class PromiseTests {
    private static final int BAD = -100000;
    private static final int FULL = -200000;
    private static final int BUSY = -300000;
    private static final int LOW = Integer.MIN_VALUE;
    private static final int HIGH = Integer.MAX_VALUE;

    private static int wrong = 0;
    private static int promise = 0;

    private static void due(String call, int got, int want) {
        if (got != want) {
            wrong++;
            System.out.println("promise " + promise + ": " + call + " answered " + got + ", due is " + want);
        }
    }

    public static void main(String[] args) {
        promise = 1;
        newObject();
        newObjectsAreApart();
        promise = 2;
        begin();
        promise = 3;
        get();
        promise = 4;
        put();
        promise = 5;
        move();
        moveOutOfRange();
        moveWrongInputs();
        promise = 6;
        commitWithoutTrouble();
        commitMachineBreaksBeforePromise();
        commitLeaderBreaks();
        commitMachineBreaksAfterPromise();
        commitMessagesLostOrTwice();
        commitOfNothing();
        commitWrongInputs();
        promise = 7;
        abort();
        promise = 8;
        crash();
        promise = 9;
        peek();
        promise = 10;
        open();
        promise = 11;
        holder();
        promise = 12;
        keys();
        promise = 13;
        written();
        promise = 14;
        sum();
        promise = 15;
        total();
        promise = 16;
        commits();
        System.out.println("PromiseTests: " + wrong + " wrong");
        if (wrong != 0) {
            System.exit(1);
        }
    }

    private static TwoPhaseStore withOpen(int count) {
        TwoPhaseStore x = new TwoPhaseStore();
        for (int t = 0; t < count; t++) {
            due("begin()", x.begin(), t);
        }
        return x;
    }

    // Key k has the number 100 + k, and no transaction is open.
    private static TwoPhaseStore filled() {
        TwoPhaseStore x = withOpen(1);
        for (int k = 0; k < 12; k++) {
            x.put(0, k, 100 + k);
        }
        due("commit(0, 0, 0)", x.commit(0, 0, 0), 1);
        return x;
    }

    private static void newObject() {
        TwoPhaseStore x = new TwoPhaseStore();
        for (int k = 0; k < 12; k++) {
            due("peek(" + k + ")", x.peek(k), 0);
            due("holder(" + k + ")", x.holder(k), FULL);
        }
        for (int t = 0; t < 4; t++) {
            due("keys(" + t + ")", x.keys(t), 0);
            due("written(" + t + ")", x.written(t), 0);
            due("get(" + t + ", 0)", x.get(t, 0), BAD);
        }
        due("open()", x.open(), 0);
        due("total()", x.total(), 0);
        due("commits()", x.commits(), 0);
    }

    private static void newObjectsAreApart() {
        TwoPhaseStore x = filled();
        x.begin();
        TwoPhaseStore y = new TwoPhaseStore();
        due("open()", y.open(), 0);
        due("peek(1)", y.peek(1), 0);
        due("commits()", y.commits(), 0);
        due("open()", x.open(), 1);
    }

    private static void begin() {
        TwoPhaseStore x = withOpen(4);
        due("begin()", x.begin(), FULL);
        due("open()", x.open(), 15);
        x.abort(2);
        x.abort(1);
        due("begin()", x.begin(), 1);
        due("begin()", x.begin(), 2);
        due("begin()", x.begin(), FULL);
        x.commit(3, 0, 0);
        due("begin()", x.begin(), 3);
        x.put(0, 0, 5);
        x.get(0, 1);
        x.abort(0);
        due("begin()", x.begin(), 0);
        due("keys(0)", x.keys(0), 0);
        due("written(0)", x.written(0), 0);
        due("get(0, 0)", x.get(0, 0), 0);
    }

    private static void get() {
        TwoPhaseStore x = filled();
        x.begin();
        x.begin();
        due("get(0, 0)", x.get(0, 0), 100);
        due("get(0, 11)", x.get(0, 11), 111);
        due("holder(11)", x.holder(11), 0);
        due("keys(0)", x.keys(0), 1 | 1 << 11);
        due("written(0)", x.written(0), 0);
        x.put(0, 11, -5);
        due("get(0, 11) of its own", x.get(0, 11), -5);
        due("get(0, 0) again", x.get(0, 0), 100);
        due("get(1, 0)", x.get(1, 0), BUSY);
        due("get(1, 11)", x.get(1, 11), BUSY);
        due("keys(1) after BUSY", x.keys(1), 0);
        due("keys(0) after BUSY", x.keys(0), 1 | 1 << 11);
        due("get(1, 12)", x.get(1, 12), BAD);
        due("get(1, -1)", x.get(1, -1), BAD);
        due("get(1, LOW)", x.get(1, LOW), BAD);
        due("get(1, HIGH)", x.get(1, HIGH), BAD);
        due("get(2, 0), not open before busy", x.get(2, 0), BAD);
        due("get(4, 1)", x.get(4, 1), BAD);
        due("get(-1, 1)", x.get(-1, 1), BAD);
        due("get(32, 1)", x.get(32, 1), BAD);
        due("get(LOW, 1)", x.get(LOW, 1), BAD);
        due("get(HIGH, 1)", x.get(HIGH, 1), BAD);
        due("keys(1) after BAD", x.keys(1), 0);
        x.abort(0);
        due("get(1, 11) when free", x.get(1, 11), 111);
    }

    private static void put() {
        TwoPhaseStore x = filled();
        x.begin();
        x.begin();
        due("put(0, 0, 7)", x.put(0, 0, 7), 100);
        due("put(0, 0, 8)", x.put(0, 0, 8), 7);
        due("get(0, 0)", x.get(0, 0), 8);
        due("peek(0)", x.peek(0), 100);
        due("put(0, 11, 9999)", x.put(0, 11, 9999), 111);
        due("put(0, 11, -9999)", x.put(0, 11, -9999), 9999);
        due("put(0, 11, 10000)", x.put(0, 11, 10000), BAD);
        due("put(0, 11, -10000)", x.put(0, 11, -10000), BAD);
        due("put(0, 11, LOW)", x.put(0, 11, LOW), BAD);
        due("put(0, 11, HIGH)", x.put(0, 11, HIGH), BAD);
        due("get(0, 11)", x.get(0, 11), -9999);
        due("put(0, 5, 10000)", x.put(0, 5, 10000), BAD);
        due("holder(5) after BAD", x.holder(5), FULL);
        due("keys(0)", x.keys(0), 1 | 1 << 11);
        due("written(0)", x.written(0), 1 | 1 << 11);
        due("put(1, 0, 1)", x.put(1, 0, 1), BUSY);
        due("put(1, 0, 10000), bad before busy", x.put(1, 0, 10000), BAD);
        due("put(2, 0, 1), bad before busy", x.put(2, 0, 1), BAD);
        due("get(0, 0) after BUSY", x.get(0, 0), 8);
        due("keys(1) after BUSY", x.keys(1), 0);
        due("written(1) after BUSY", x.written(1), 0);
        due("put(1, 12, 1)", x.put(1, 12, 1), BAD);
        due("put(1, -1, 1)", x.put(1, -1, 1), BAD);
        due("put(4, 1, 1)", x.put(4, 1, 1), BAD);
        due("put(-1, 1, 1)", x.put(-1, 1, 1), BAD);
        x.get(1, 3);
        due("put(0, 3, 1), held by a reader", x.put(0, 3, 1), BUSY);
        due("put(1, 3, 1) after its own get", x.put(1, 3, 1), 103);
        x.abort(0);
        due("put(1, 0, 2) when free", x.put(1, 0, 2), 100);
    }

    private static void move() {
        TwoPhaseStore x = filled();
        x.begin();
        x.begin();
        due("move(0, 2 + 12 * 5, 30)", x.move(0, 62, 30), 72);
        due("get(0, 2)", x.get(0, 2), 72);
        due("get(0, 5)", x.get(0, 5), 135);
        due("keys(0)", x.keys(0), 1 << 2 | 1 << 5);
        due("written(0)", x.written(0), 1 << 2 | 1 << 5);
        due("peek(2)", x.peek(2), 102);
        due("peek(5)", x.peek(5), 105);
        due("move(0, 62, 1) sees its own", x.move(0, 62, 1), 71);
        due("move(0, 5 + 12 * 2, 6)", x.move(0, 29, 6), 130);
        due("move(0, 7 + 12 * 8, 0)", x.move(0, 103, 0), 107);
        due("written(0)", x.written(0), 1 << 2 | 1 << 5 | 1 << 7 | 1 << 8);
        due("move(1, 1 + 12 * 2, 1)", x.move(1, 25, 1), BUSY);
        due("move(1, 2 + 12 * 1, 1)", x.move(1, 14, 1), BUSY);
        due("keys(1) after BUSY", x.keys(1), 0);
        due("written(1) after BUSY", x.written(1), 0);
        x.get(1, 10);
        due("move(0, 10 + 12 * 2, 1), a reader holds it", x.move(0, 34, 1), BUSY);
        due("move(1, 10 + 12 * 9, 9999), busy is none", x.move(1, 118, 9999), FULL);
        due("move(1, 10 + 12 * 2, 9999), busy before full", x.move(1, 34, 9999), BUSY);
        due("commit(0, 0, 0)", x.commit(0, 0, 0), 1);
        due("peek(2)", x.peek(2), 77);
        due("peek(5)", x.peek(5), 130);
        due("peek(7)", x.peek(7), 107);
        due("total()", x.total(), 1266);
    }

    private static void moveOutOfRange() {
        TwoPhaseStore x = withOpen(1);
        due("move(0, 0 + 12 * 11, 9999)", x.move(0, 132, 9999), -9999);
        due("get(0, 11)", x.get(0, 11), 9999);
        due("move(0, 132, 0)", x.move(0, 132, 0), -9999);
        due("move(0, 0 + 12 * 1, 1), the first too small", x.move(0, 12, 1), FULL);
        due("move(0, 1 + 12 * 11, 1), the second too great", x.move(0, 133, 1), FULL);
        due("keys(0) after FULL", x.keys(0), 1 | 1 << 11);
        due("written(0) after FULL", x.written(0), 1 | 1 << 11);
        due("get(0, 0) after FULL", x.get(0, 0), -9999);
        due("get(0, 11) after FULL", x.get(0, 11), 9999);
        due("move(0, 11, 9999)", x.move(0, 11, 9999), 0);
        due("get(0, 0)", x.get(0, 0), 0);
        x.put(0, 0, 9998);
        due("move(0, 1 + 12 * 0, 1) to the edge", x.move(0, 1, 1), -1);
        due("get(0, 0)", x.get(0, 0), 9999);
        x.get(0, 4);
        due("move(0, 4 + 12 * 0, 1), FULL with a key that it read", x.move(0, 4, 1), FULL);
        due("written(0)", x.written(0), 3 | 1 << 11);
        due("keys(0)", x.keys(0), 3 | 1 << 4 | 1 << 11);
    }

    private static void moveWrongInputs() {
        TwoPhaseStore x = withOpen(2);
        x.put(1, 0, 1);
        due("move(2, 15, 1)", x.move(2, 15, 1), BAD);
        due("move(-1, 15, 1)", x.move(-1, 15, 1), BAD);
        due("move(4, 15, 1)", x.move(4, 15, 1), BAD);
        due("move(0, -1, 1)", x.move(0, -1, 1), BAD);
        due("move(0, -12, 1)", x.move(0, -12, 1), BAD);
        due("move(0, 144, 1)", x.move(0, 144, 1), BAD);
        due("move(0, 145, 1)", x.move(0, 145, 1), BAD);
        due("move(0, LOW, 1)", x.move(0, LOW, 1), BAD);
        due("move(0, HIGH, 1)", x.move(0, HIGH, 1), BAD);
        for (int k = 0; k < 12; k++) {
            due("move(0, 13 * " + k + ", 1)", x.move(0, 13 * k, 1), BAD);
        }
        due("move(0, 15, -1)", x.move(0, 15, -1), BAD);
        due("move(0, 15, 10000)", x.move(0, 15, 10000), BAD);
        due("move(0, 15, LOW)", x.move(0, 15, LOW), BAD);
        due("move(0, 15, HIGH)", x.move(0, 15, HIGH), BAD);
        due("move(0, 12, 10000), bad before busy", x.move(0, 12, 10000), BAD);
        due("move(0, 12, -1), bad before busy", x.move(0, 12, -1), BAD);
        due("move(0, 0, 1), the same key before busy", x.move(0, 0, 1), BAD);
        due("move(0, 12, 1)", x.move(0, 12, 1), BUSY);
        due("keys(0)", x.keys(0), 0);
        due("move(0, 142, 1), the greatest with two keys", x.move(0, 142, 1), -1);
        due("keys(0)", x.keys(0), 1 << 10 | 1 << 11);
    }

    private static void commitWithoutTrouble() {
        for (int m = 0; m < 3; m++) {
            TwoPhaseStore x = prepared();
            due("commit(0, 0, " + m + ")", x.commit(0, 0, m), 1);
            dueAfter(x, true, 14);
        }
    }

    // Transaction 0 has keys on the machines 0 and 1, transaction 1 on 1
    // (read only), transaction 2 on 2, and transaction 3 has none.
    private static TwoPhaseStore prepared() {
        TwoPhaseStore x = filled();
        for (int t = 0; t < 4; t++) {
            due("begin()", x.begin(), t);
        }
        x.put(0, 0, 1);
        x.put(0, 0, 2);
        x.put(0, 4, 3);
        x.get(0, 9);
        x.get(1, 7);
        x.put(2, 8, 5);
        return x;
    }

    private static void dueAfter(TwoPhaseStore x, boolean committed, int openBits) {
        due("peek(0)", x.peek(0), committed ? 2 : 100);
        due("peek(4)", x.peek(4), committed ? 3 : 104);
        due("peek(9)", x.peek(9), 109);
        due("peek(7)", x.peek(7), 107);
        due("peek(8)", x.peek(8), 108);
        due("commits()", x.commits(), committed ? 2 : 1);
        due("total()", x.total(), committed ? 1266 - 98 - 101 : 1266);
        due("open()", x.open(), openBits);
        due("holder(0)", x.holder(0), FULL);
        due("holder(4)", x.holder(4), FULL);
        due("holder(9)", x.holder(9), FULL);
        due("keys(0)", x.keys(0), 0);
        due("written(0)", x.written(0), 0);
        due("holder(7)", x.holder(7), (openBits & 2) != 0 ? 1 : FULL);
        due("keys(1)", x.keys(1), (openBits & 2) != 0 ? 1 << 7 : 0);
        due("holder(8)", x.holder(8), (openBits & 4) != 0 ? 2 : FULL);
        due("written(2)", x.written(2), (openBits & 4) != 0 ? 1 << 8 : 0);
        due("get(2, 8)", x.get(2, 8), (openBits & 4) != 0 ? 5 : BAD);
        due("commit(0, 0, 0) again", x.commit(0, 0, 0), BAD);
    }

    private static void commitMachineBreaksBeforePromise() {
        TwoPhaseStore x = prepared();
        due("commit(0, 1, 0)", x.commit(0, 1, 0), 0);
        dueAfter(x, false, 14);
        x = prepared();
        due("commit(0, 1, 1)", x.commit(0, 1, 1), 0);
        dueAfter(x, false, 12);
        x = prepared();
        due("commit(0, 1, 2), where it has no key", x.commit(0, 1, 2), 1);
        dueAfter(x, true, 10);
        x = filled();
        x.begin();
        x.get(0, 5);
        due("commit(0, 1, 2), where it has only read", x.commit(0, 1, 2), 0);
        due("open()", x.open(), 0);
    }

    private static void commitLeaderBreaks() {
        for (int m = 0; m < 3; m++) {
            TwoPhaseStore x = prepared();
            due("commit(0, 2, " + m + ")", x.commit(0, 2, m), 0);
            dueAfter(x, false, 0);
            x = prepared();
            due("commit(0, 3, " + m + ")", x.commit(0, 3, m), 1);
            dueAfter(x, true, 0);
        }
    }

    private static void commitMachineBreaksAfterPromise() {
        for (int trouble = 4; trouble <= 5; trouble++) {
            TwoPhaseStore x = prepared();
            due("commit(0, " + trouble + ", 0)", x.commit(0, trouble, 0), 1);
            dueAfter(x, true, 14);
            x = prepared();
            due("commit(0, " + trouble + ", 1)", x.commit(0, trouble, 1), 1);
            dueAfter(x, true, 12);
            x = prepared();
            due("commit(0, " + trouble + ", 2)", x.commit(0, trouble, 2), 1);
            dueAfter(x, true, 10);
        }
    }

    private static void commitMessagesLostOrTwice() {
        for (int trouble = 6; trouble <= 7; trouble++) {
            for (int m = 0; m < 3; m++) {
                TwoPhaseStore x = prepared();
                due("commit(0, " + trouble + ", " + m + ")", x.commit(0, trouble, m), 1);
                dueAfter(x, true, 14);
            }
        }
    }

    private static void commitOfNothing() {
        for (int trouble = 0; trouble <= 7; trouble++) {
            for (int m = 0; m < 3; m++) {
                TwoPhaseStore x = withOpen(1);
                int want = trouble == 2 ? 0 : 1;
                due("commit(0, " + trouble + ", " + m + ")", x.commit(0, trouble, m), want);
                due("commits()", x.commits(), want);
                due("open()", x.open(), 0);
            }
        }
    }

    private static void commitWrongInputs() {
        TwoPhaseStore x = withOpen(2);
        x.put(0, 0, 1);
        x.put(1, 1, 2);
        for (int trouble = 0; trouble <= 7; trouble++) {
            due("commit(0, " + trouble + ", 3)", x.commit(0, trouble, 3), BAD);
            due("commit(0, " + trouble + ", -1)", x.commit(0, trouble, -1), BAD);
            due("commit(2, " + trouble + ", 0)", x.commit(2, trouble, 0), BAD);
        }
        due("commit(0, 8, 0)", x.commit(0, 8, 0), BAD);
        due("commit(0, -1, 0)", x.commit(0, -1, 0), BAD);
        due("commit(0, LOW, 0)", x.commit(0, LOW, 0), BAD);
        due("commit(0, HIGH, 0)", x.commit(0, HIGH, 0), BAD);
        due("commit(0, 0, LOW)", x.commit(0, 0, LOW), BAD);
        due("commit(0, 0, HIGH)", x.commit(0, 0, HIGH), BAD);
        due("commit(4, 0, 0)", x.commit(4, 0, 0), BAD);
        due("commit(-1, 0, 0)", x.commit(-1, 0, 0), BAD);
        due("commit(32, 0, 0)", x.commit(32, 0, 0), BAD);
        due("open()", x.open(), 3);
        due("total()", x.total(), 0);
        due("commits()", x.commits(), 0);
        due("keys(0)", x.keys(0), 1);
    }

    private static void abort() {
        TwoPhaseStore x = filled();
        x.begin();
        x.begin();
        x.put(0, 0, 1);
        x.get(0, 0);
        x.get(0, 11);
        x.move(0, 62, 5);
        x.put(1, 1, 9);
        due("abort(0)", x.abort(0), 4);
        due("open()", x.open(), 2);
        due("total()", x.total(), 1266);
        due("commits()", x.commits(), 1);
        due("keys(0)", x.keys(0), 0);
        due("holder(0)", x.holder(0), FULL);
        due("holder(1)", x.holder(1), 1);
        due("abort(0) again", x.abort(0), BAD);
        due("get(1, 0)", x.get(1, 0), 100);
        for (int k = 0; k < 12; k++) {
            x.get(1, k);
        }
        due("abort(1)", x.abort(1), 12);
        due("begin()", x.begin(), 0);
        due("abort(0) of nothing", x.abort(0), 0);
        due("abort(4)", x.abort(4), BAD);
        due("abort(-1)", x.abort(-1), BAD);
        due("abort(LOW)", x.abort(LOW), BAD);
        due("abort(HIGH)", x.abort(HIGH), BAD);
    }

    private static void crash() {
        for (int k = 0; k < 12; k++) {
            for (int m = 0; m < 3; m++) {
                TwoPhaseStore x = withOpen(2);
                x.get(1, k);
                boolean hit = k % 3 == m;
                due("crash(" + m + ") with key " + k, x.crash(m), hit ? 1 : 0);
                due("open()", x.open(), hit ? 1 : 3);
                due("holder(" + k + ")", x.holder(k), hit ? FULL : 1);
            }
        }
        TwoPhaseStore x = prepared();
        due("crash(-1)", x.crash(-1), BAD);
        due("crash(4)", x.crash(4), BAD);
        due("crash(LOW)", x.crash(LOW), BAD);
        due("crash(HIGH)", x.crash(HIGH), BAD);
        due("open()", x.open(), 15);
        due("crash(1)", x.crash(1), 2);
        dueAfter(x, false, 12);
        x = prepared();
        due("crash(3)", x.crash(3), 4);
        dueAfter(x, false, 0);
        due("crash(3) again", x.crash(3), 0);
        due("total()", x.total(), 1266);
    }

    private static void peek() {
        TwoPhaseStore x = filled();
        for (int k = 0; k < 12; k++) {
            due("peek(" + k + ")", x.peek(k), 100 + k);
        }
        x.begin();
        x.put(0, 3, -9999);
        due("peek(3) while it is written", x.peek(3), 103);
        due("holder(4) after peek", x.holder(4), FULL);
        x.commit(0, 0, 0);
        due("peek(3)", x.peek(3), -9999);
        due("peek(12)", x.peek(12), BAD);
        due("peek(-1)", x.peek(-1), BAD);
        due("peek(LOW)", x.peek(LOW), BAD);
        due("peek(HIGH)", x.peek(HIGH), BAD);
    }

    private static void open() {
        TwoPhaseStore x = new TwoPhaseStore();
        int bits = 0;
        for (int t = 0; t < 4; t++) {
            due("open()", x.open(), bits);
            x.begin();
            bits |= 1 << t;
        }
        due("open()", x.open(), 15);
        x.abort(1);
        due("open()", x.open(), 13);
        x.commit(3, 0, 0);
        due("open()", x.open(), 5);
        x.get(2, 4);
        x.crash(1);
        due("open()", x.open(), 1);
    }

    private static void holder() {
        TwoPhaseStore x = withOpen(4);
        for (int k = 0; k < 12; k++) {
            due("holder(" + k + ")", x.holder(k), FULL);
            if (k < 6) {
                x.get(k % 4, k);
            } else {
                x.put(k % 4, k, 1);
            }
            due("holder(" + k + ")", x.holder(k), k % 4);
        }
        x.commit(2, 0, 0);
        x.abort(3);
        for (int k = 0; k < 12; k++) {
            due("holder(" + k + ")", x.holder(k), k % 4 < 2 ? k % 4 : FULL);
        }
        due("holder(12)", x.holder(12), BAD);
        due("holder(-1)", x.holder(-1), BAD);
        due("holder(LOW)", x.holder(LOW), BAD);
        due("holder(HIGH)", x.holder(HIGH), BAD);
    }

    private static void keys() {
        TwoPhaseStore x = withOpen(4);
        x.get(3, 0);
        x.put(3, 11, 0);
        x.move(3, 62, 0);
        x.get(1, 1);
        due("keys(3)", x.keys(3), 1 | 1 << 11 | 1 << 2 | 1 << 5);
        due("keys(1)", x.keys(1), 2);
        due("keys(0)", x.keys(0), 0);
        x.commit(3, 0, 0);
        due("keys(3)", x.keys(3), 0);
        due("keys(4)", x.keys(4), 0);
        due("keys(-1)", x.keys(-1), 0);
        due("keys(33)", x.keys(33), 0);
        due("keys(LOW)", x.keys(LOW), 0);
        due("keys(HIGH)", x.keys(HIGH), 0);
    }

    private static void written() {
        TwoPhaseStore x = withOpen(4);
        x.get(3, 0);
        x.put(3, 11, 0);
        x.move(3, 62, 0);
        x.put(1, 1, 1);
        x.get(1, 1);
        due("written(3)", x.written(3), 1 << 11 | 1 << 2 | 1 << 5);
        due("written(1)", x.written(1), 2);
        due("written(0)", x.written(0), 0);
        x.abort(3);
        due("written(3)", x.written(3), 0);
        due("written(4)", x.written(4), 0);
        due("written(-1)", x.written(-1), 0);
        due("written(33)", x.written(33), 0);
        due("written(LOW)", x.written(LOW), 0);
        due("written(HIGH)", x.written(HIGH), 0);
    }

    private static void sum() {
        TwoPhaseStore x = filled();
        x.begin();
        x.put(0, 0, 9999);
        due("sum(0)", x.sum(0), 418);
        due("sum(1)", x.sum(1), 422);
        due("sum(2)", x.sum(2), 426);
        x.commit(0, 0, 0);
        due("sum(0)", x.sum(0), 418 - 100 + 9999);
        due("sum(3)", x.sum(3), BAD);
        due("sum(-1)", x.sum(-1), BAD);
        due("sum(LOW)", x.sum(LOW), BAD);
        due("sum(HIGH)", x.sum(HIGH), BAD);
    }

    private static void total() {
        for (int sign = -1; sign <= 1; sign += 2) {
            TwoPhaseStore x = withOpen(1);
            for (int k = 0; k < 12; k++) {
                x.put(0, k, sign * 9999);
            }
            due("total() before commit", x.total(), 0);
            x.commit(0, 0, 0);
            due("total()", x.total(), sign * 119988);
            due("sum(2)", x.sum(2), sign * 39996);
            x.begin();
            x.put(0, 6, 0);
            x.abort(0);
            due("total() after abort", x.total(), sign * 119988);
        }
    }

    private static void commits() {
        TwoPhaseStore x = new TwoPhaseStore();
        int count = 0;
        for (int round = 0; round < 4; round++) {
            for (int trouble = 0; trouble <= 7; trouble++) {
                x.begin();
                x.put(0, 1, round);
                count += trouble == 1 || trouble == 2 ? 0 : 1;
                x.commit(0, trouble, 1);
                due("commits()", x.commits(), count);
            }
            x.begin();
            x.abort(0);
            x.begin();
            x.crash(3);
            x.commit(0, 0, 0);
            due("commits()", x.commits(), count);
        }
    }
}
