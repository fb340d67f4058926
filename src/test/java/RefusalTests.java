import java.util.ArrayList;
import java.util.List;
import java.util.function.Supplier;
import java.util.function.ToIntFunction;

// Every refused call, in stores with none, one, three and four transactions
// open: its answer, the order in which the refusals are tested, and that it
// changes nothing, neither what can be seen at once nor what comes later.
public final class RefusalTests {
    private static final int BAD = -100000;
    private static final int FULL = -200000;
    private static final int BUSY = -300000;
    private static final int LEAST = Integer.MIN_VALUE;
    private static final int GREATEST = Integer.MAX_VALUE;

    // 32 and more, and -32 and less, would come back into range if they
    // were used as the distance of a shift before they are looked at.
    private static final int[] NO_TRANSACTION = {-1, 4, LEAST, GREATEST, 32, 33, 35, -32, -29, 256};
    private static final int[] NO_KEY = {-1, 12, LEAST, GREATEST, 32, 43, -32, -12, 256};
    private static final int[] NO_NUMBER = {-10000, 10000, LEAST, GREATEST, LEAST + 9999, 65536};
    private static final int[] NO_PAIR = {-1, 144, LEAST, GREATEST, -2, -12, -143, -144, 145, 156, 287, 257};
    private static final int[] NO_AMOUNT = {-1, 10000, LEAST, GREATEST, -9999, LEAST + 1, 65536};
    private static final int[] NO_TROUBLE = {-1, 8, LEAST, GREATEST, -7, 9, 32, 256};
    private static final int[] NO_KEY_MACHINE = {-1, 3, LEAST, GREATEST, -3, 4, 32, 256};
    private static final int[] NO_MACHINE = {-1, 4, LEAST, GREATEST, -3, 5, 32, 256};

    private static final int[] COMMITTED = {9999, -9999, 5, -5, 9999, -9999, 0, 7, 0, 0, -9999, 9999};

    private static int wrong = 0;
    private static String sentence = "";

    private static void due(String call, int got, int want) {
        if (got != want) {
            wrong++;
            System.out.println(sentence + ": " + call + " answered " + got + ", due is " + want);
        }
    }

    public static void main(String[] args) {
        storesAreAsSaid();
        beginWhenFourAreOpen();
        getOfTransactionNotOpen();
        getOfKeyOutOfRange();
        getOfKeyHeldByAnother();
        getOrder();
        putOfTransactionNotOpen();
        putOfKeyOutOfRange();
        putOfNumberOutOfRange();
        putOfKeyHeldByAnother();
        putOrder();
        moveOfTransactionNotOpen();
        moveOfPairOutOfRange();
        moveOfTheSameKey();
        moveOfAmountOutOfRange();
        moveOfKeyHeldByAnother();
        moveToNumberOutOfRange();
        moveOrderBadBeforeBusy();
        moveOrderBadBeforeFull();
        moveOrderBusyBeforeFull();
        commitOfTransactionNotOpen();
        commitOfTroubleOutOfRange();
        commitOfMachineOutOfRangeForAllTroubles();
        abortOfTransactionNotOpen();
        crashOfMachineOutOfRange();
        peekOfKeyOutOfRange();
        holderOfKeyOutOfRange();
        holderOfKeyThatNobodyHolds();
        keysOfTransactionNotOpen();
        writtenOfTransactionNotOpen();
        sumOfMachineOutOfRange();
        System.out.println("RefusalTests: " + wrong + " wrong");
        if (wrong != 0) {
            System.exit(1);
        }
    }

    // ---- The stores in which calls are refused ----

    private static TwoPhaseStore noneOpen() {
        TwoPhaseStore x = new TwoPhaseStore();
        x.begin();
        for (int k = 0; k < 12; k++) {
            x.put(0, k, COMMITTED[k]);
        }
        x.commit(0, 0, 0);
        return x;
    }

    // 0 has read key 0 and written key 2, 1 has read key 1 and written key 4,
    // 2 has done nothing, 3 has read key 10 and written key 11. The other
    // keys, 3 and 5 to 9, are free.
    private static TwoPhaseStore fourOpen() {
        TwoPhaseStore x = noneOpen();
        for (int t = 0; t < 4; t++) {
            x.begin();
        }
        x.get(0, 0);
        x.put(0, 2, 50);
        x.get(1, 1);
        x.put(1, 4, 3);
        x.get(3, 10);
        x.put(3, 11, -1);
        return x;
    }

    private static TwoPhaseStore allOpenBut(int t) {
        TwoPhaseStore x = fourOpen();
        x.abort(t);
        return x;
    }

    private static TwoPhaseStore onlyOpen(int t) {
        TwoPhaseStore x = fourOpen();
        for (int other = 0; other < 4; other++) {
            if (other != t) {
                x.abort(other);
            }
        }
        return x;
    }

    private static List<Supplier<TwoPhaseStore>> allStores() {
        List<Supplier<TwoPhaseStore>> stores = new ArrayList<>();
        stores.add(TwoPhaseStore::new);
        stores.add(RefusalTests::noneOpen);
        stores.add(RefusalTests::fourOpen);
        for (int i = 0; i < 4; i++) {
            int t = i;
            stores.add(() -> allOpenBut(t));
            stores.add(() -> onlyOpen(t));
        }
        return stores;
    }

    // The other tests lean on this one: it alone says what is in the stores.
    private static void storesAreAsSaid() {
        sentence = "the stores of these tests";
        TwoPhaseStore x = fourOpen();
        int[] holders = {0, 1, 0, FULL, 1, FULL, FULL, FULL, FULL, FULL, 3, 3};
        for (int k = 0; k < 12; k++) {
            due("peek(" + k + ")", x.peek(k), COMMITTED[k]);
            due("holder(" + k + ")", x.holder(k), holders[k]);
        }
        int[] keys = {1 | 1 << 2, 1 << 1 | 1 << 4, 0, 1 << 10 | 1 << 11};
        int[] written = {1 << 2, 1 << 4, 0, 1 << 11};
        for (int t = 0; t < 4; t++) {
            due("keys(" + t + ")", x.keys(t), keys[t]);
            due("written(" + t + ")", x.written(t), written[t]);
            due("open() without " + t, allOpenBut(t).open(), 15 & ~(1 << t));
            due("open() with " + t + " alone", onlyOpen(t).open(), 1 << t);
        }
        due("open() with four", x.open(), 15);
        due("open() with none", noneOpen().open(), 0);
        due("commits()", x.commits(), 1);
    }

    // ---- A refused call changes nothing ----

    // Two stores that have seen the same calls, but that one of them has also
    // seen the refused call, must answer all later calls alike.
    private static void refused(Supplier<TwoPhaseStore> store, String name, ToIntFunction<TwoPhaseStore> call,
            int want) {
        for (int end = 0; end < 3; end++) {
            TwoPhaseStore asked = store.get();
            TwoPhaseStore twin = store.get();
            due(name, call.applyAsInt(asked), want);
            List<String> got = answersAfter(asked, end);
            List<String> calm = answersAfter(twin, end);
            for (int i = 0; i < calm.size(); i++) {
                if (!got.get(i).equals(calm.get(i))) {
                    wrong++;
                    System.out.println(sentence + ": after " + name + " " + got.get(i)
                        + ", without it " + calm.get(i) + ", with " + Integer.toBinaryString(twin.open()) + " open");
                    break;
                }
            }
        }
    }

    private static List<String> answersAfter(TwoPhaseStore x, int end) {
        List<String> answers = new ArrayList<>();
        look(x, answers);
        for (int t = 0; t < 4; t++) {
            answers.add("get of " + t + " = " + x.get(t, 5 + t));
            if (end == 0) {
                answers.add("commit of " + t + " = " + x.commit(t, 0, 0));
            } else if (end == 1) {
                answers.add("abort of " + t + " = " + x.abort(t));
            }
        }
        if (end == 2) {
            answers.add("crash of 1 = " + x.crash(1));
            answers.add("open = " + x.open());
            answers.add("crash of 3 = " + x.crash(3));
        }
        answers.add("begin = " + x.begin());
        look(x, answers);
        return answers;
    }

    private static void look(TwoPhaseStore x, List<String> answers) {
        for (int k = 0; k < 12; k++) {
            answers.add("peek of " + k + " = " + x.peek(k));
            int t = x.holder(k);
            answers.add("holder of " + k + " = " + t);
            if (t >= 0) {
                // The holder's own get takes no key that it has not got.
                answers.add("get of " + t + " and " + k + " = " + x.get(t, k));
            }
        }
        for (int t = 0; t < 4; t++) {
            answers.add("keys of " + t + " = " + x.keys(t));
            answers.add("written of " + t + " = " + x.written(t));
        }
        for (int m = 0; m < 3; m++) {
            answers.add("sum of " + m + " = " + x.sum(m));
        }
        answers.add("total = " + x.total());
        answers.add("open = " + x.open());
        answers.add("commits = " + x.commits());
    }

    // A call that takes a transaction, asked of all that are not open in any
    // of the stores.
    private interface CallOfOne {
        int ask(TwoPhaseStore x, int t);
    }

    private static void refusedWhenNotOpen(String name, CallOfOne call, int want) {
        for (Supplier<TwoPhaseStore> store : allStores()) {
            for (int t : NO_TRANSACTION) {
                refused(store, name + " of " + t, x -> call.ask(x, t), want);
            }
            for (int i = 0; i < 4; i++) {
                int t = i;
                if ((store.get().open() >> t & 1) == 0) {
                    refused(store, name + " of " + t, x -> call.ask(x, t), want);
                }
            }
        }
    }

    private static void refusedByAllStores(int[] values, String name, CallOfOne call, int want) {
        for (Supplier<TwoPhaseStore> store : allStores()) {
            for (int value : values) {
                refused(store, name + " of " + value, x -> call.ask(x, value), want);
            }
        }
    }

    private static void refusedByFour(String name, ToIntFunction<TwoPhaseStore> call, int want) {
        refused(RefusalTests::fourOpen, name, call, want);
    }

    private static int pair(int first, int second) {
        return first + 12 * second;
    }

    // ---- Promise 2 ----

    private static void beginWhenFourAreOpen() {
        sentence = "2: FULL when four are open";
        refusedByFour("begin()", x -> x.begin(), FULL);
        refusedByFour("begin() twice", x -> Math.max(x.begin(), x.begin()), FULL);
    }

    // ---- Promise 3 ----

    private static void getOfTransactionNotOpen() {
        sentence = "3: BAD when t is not open";
        refusedWhenNotOpen("get of key 6", (x, t) -> x.get(t, 6), BAD);
        refusedWhenNotOpen("get of key 0", (x, t) -> x.get(t, 0), BAD);
    }

    private static void getOfKeyOutOfRange() {
        sentence = "3: BAD when k is not 0 .. 11";
        for (int k : NO_KEY) {
            for (int i = 0; i < 4; i++) {
                int t = i;
                refusedByFour("get(" + t + ", " + k + ")", x -> x.get(t, k), BAD);
                refused(() -> onlyOpen(t), "get(" + t + ", " + k + ")", x -> x.get(t, k), BAD);
            }
        }
    }

    private static void getOfKeyHeldByAnother() {
        sentence = "3: BUSY, changing nothing, when another transaction holds the key";
        for (int i = 0; i < 48; i++) {
            int t = i / 12;
            int k = i % 12;
            int holder = fourOpen().holder(k);
            if (holder >= 0 && holder != t) {
                refusedByFour("get(" + t + ", " + k + ")", x -> x.get(t, k), BUSY);
            }
        }
    }

    private static void getOrder() {
        sentence = "3: tested in this order: BAD; BUSY";
        for (int k : new int[] {0, 2, 10, 11}) {
            refused(() -> allOpenBut(1), "get(1, " + k + ")", x -> x.get(1, k), BAD);
            for (int t : NO_TRANSACTION) {
                refusedByFour("get(" + t + ", " + k + ")", x -> x.get(t, k), BAD);
            }
        }
        refusedByFour("get(4, 12)", x -> x.get(4, 12), BAD);
    }

    // ---- Promise 4 ----

    private static void putOfTransactionNotOpen() {
        sentence = "4: BAD when t is not open";
        refusedWhenNotOpen("put of key 6", (x, t) -> x.put(t, 6, 1), BAD);
        refusedWhenNotOpen("put of key 0", (x, t) -> x.put(t, 0, 1), BAD);
    }

    private static void putOfKeyOutOfRange() {
        sentence = "4: BAD when k is not 0 .. 11";
        for (int k : NO_KEY) {
            for (int i = 0; i < 4; i++) {
                int t = i;
                refusedByFour("put(" + t + ", " + k + ", 1)", x -> x.put(t, k, 1), BAD);
                refused(() -> onlyOpen(t), "put(" + t + ", " + k + ", 1)", x -> x.put(t, k, 1), BAD);
            }
        }
    }

    private static void putOfNumberOutOfRange() {
        sentence = "4: BAD when v is not -9999 .. 9999";
        for (int v : NO_NUMBER) {
            refusedByFour("put to a key that it has written, of " + v, x -> x.put(0, 2, v), BAD);
            refusedByFour("put to a key that it has read, of " + v, x -> x.put(0, 0, v), BAD);
            refusedByFour("put to a free key, of " + v, x -> x.put(0, 5, v), BAD);
            refusedByFour("put of the last transaction, of " + v, x -> x.put(3, 9, v), BAD);
        }
    }

    private static void putOfKeyHeldByAnother() {
        sentence = "4: BUSY as in get";
        for (int i = 0; i < 48; i++) {
            int t = i / 12;
            int k = i % 12;
            int holder = fourOpen().holder(k);
            if (holder >= 0 && holder != t) {
                for (int v : new int[] {-9999, 0, 9999}) {
                    refusedByFour("put(" + t + ", " + k + ", " + v + ")", x -> x.put(t, k, v), BUSY);
                }
            }
        }
    }

    private static void putOrder() {
        sentence = "4: tested in this order: BAD; BUSY";
        for (int k : new int[] {0, 2, 10, 11}) {
            refused(() -> allOpenBut(1), "put(1, " + k + ", 1)", x -> x.put(1, k, 1), BAD);
            for (int v : NO_NUMBER) {
                refusedByFour("put(1, " + k + ", " + v + ")", x -> x.put(1, k, v), BAD);
            }
            for (int t : NO_TRANSACTION) {
                refusedByFour("put(" + t + ", " + k + ", 1)", x -> x.put(t, k, 1), BAD);
            }
        }
        refusedByFour("put(4, 12, 10000)", x -> x.put(4, 12, 10000), BAD);
    }

    // ---- Promise 5 ----

    private static void moveOfTransactionNotOpen() {
        sentence = "5: BAD when t is not open";
        refusedWhenNotOpen("move from 6 to 7", (x, t) -> x.move(t, pair(6, 7), 1), BAD);
        refusedWhenNotOpen("move from 0 to 2", (x, t) -> x.move(t, pair(0, 2), 1), BAD);
    }

    private static void moveOfPairOutOfRange() {
        sentence = "5: BAD when both is not 0 .. 143";
        for (int both : NO_PAIR) {
            for (int amount : new int[] {0, 1, 9999}) {
                refusedByFour("move(2, " + both + ", " + amount + ")", x -> x.move(2, both, amount), BAD);
                refused(() -> onlyOpen(2), "move(2, " + both + ", " + amount + ")",
                    x -> x.move(2, both, amount), BAD);
            }
        }
    }

    private static void moveOfTheSameKey() {
        sentence = "5: BAD when the keys are the same";
        for (int i = 0; i < 12; i++) {
            int k = i;
            for (int amount : new int[] {0, 1, 9999}) {
                refused(() -> onlyOpen(2), "move(2, " + pair(k, k) + ", " + amount + ")",
                    x -> x.move(2, pair(k, k), amount), BAD);
            }
        }
        refusedByFour("move of a key that it holds to itself", x -> x.move(0, pair(2, 2), 1), BAD);
    }

    private static void moveOfAmountOutOfRange() {
        sentence = "5: BAD when amount is not 0 .. 9999";
        for (int amount : NO_AMOUNT) {
            refusedByFour("move between free keys, of " + amount, x -> x.move(2, pair(6, 7), amount), BAD);
            refusedByFour("move between its own keys, of " + amount, x -> x.move(0, pair(2, 0), amount), BAD);
        }
        // With these amounts both numbers would stay within -9999 .. 9999.
        refused(() -> onlyOpen(2), "move from 9999 to -9999, of 10000", x -> x.move(2, pair(0, 1), 10000), BAD);
        refused(() -> onlyOpen(2), "move from 9999 to -9999, of 19998", x -> x.move(2, pair(0, 1), 19998), BAD);
        refused(() -> onlyOpen(2), "move from -9999 to 9999, of -1", x -> x.move(2, pair(1, 0), -1), BAD);
    }

    private static void moveOfKeyHeldByAnother() {
        sentence = "5: BUSY, changing nothing, when another transaction holds one of the keys";
        refusedByFour("the first was read", x -> x.move(2, pair(0, 6), 1), BUSY);
        refusedByFour("the first was written", x -> x.move(2, pair(2, 6), 1), BUSY);
        refusedByFour("the second was read", x -> x.move(2, pair(6, 1), 1), BUSY);
        refusedByFour("the second was written", x -> x.move(2, pair(6, 4), 1), BUSY);
        refusedByFour("both, by one", x -> x.move(2, pair(0, 2), 1), BUSY);
        refusedByFour("both, by two", x -> x.move(2, pair(2, 4), 1), BUSY);
        refusedByFour("the first by the last", x -> x.move(0, pair(11, 2), 1), BUSY);
        refusedByFour("the second by the first, the other its own", x -> x.move(3, pair(11, 2), 1), BUSY);
        refusedByFour("the first by the first, the other its own", x -> x.move(3, pair(2, 11), 1), BUSY);
        refusedByFour("of nothing", x -> x.move(2, pair(2, 6), 0), BUSY);
    }

    private static void moveToNumberOutOfRange() {
        sentence = "5: FULL, changing nothing (no key is held that was not), when a number would not be -9999 .. 9999";
        refused(() -> onlyOpen(2), "the first one too small", x -> x.move(2, pair(1, 6), 1), FULL);
        refused(() -> onlyOpen(2), "the second one too great", x -> x.move(2, pair(6, 0), 1), FULL);
        refused(() -> onlyOpen(2), "the first far too small", x -> x.move(2, pair(1, 6), 9999), FULL);
        refused(() -> onlyOpen(2), "the second far too great", x -> x.move(2, pair(6, 0), 9999), FULL);
        refused(() -> onlyOpen(2), "both", x -> x.move(2, pair(1, 0), 1), FULL);
        refused(() -> onlyOpen(2), "the first from -5, one too small", x -> x.move(2, pair(3, 6), 9995), FULL);
        refused(() -> onlyOpen(2), "the second from 7, one too great", x -> x.move(2, pair(6, 7), 9993), FULL);
        refusedByFour("the first held, the second not", x -> x.move(3, pair(10, 6), 1), FULL);
        refusedByFour("the second held, the first not", x -> x.move(0, pair(6, 0), 1), FULL);
        refusedByFour("both held, the first only read", x -> x.move(3, pair(10, 11), 1), FULL);
        refusedByFour("both held, the second only read", x -> x.move(0, pair(2, 0), 1), FULL);
        refusedByFour("its own number counts, not the committed one", x -> x.move(3, pair(11, 6), 9999), FULL);
    }

    private static void moveOrderBadBeforeBusy() {
        sentence = "5: tested in this order: BAD; BUSY";
        for (int both : new int[] {pair(0, 6), pair(6, 0), pair(2, 11), pair(11, 10)}) {
            refused(() -> allOpenBut(1), "move(1, " + both + ", 1)", x -> x.move(1, both, 1), BAD);
            for (int t : NO_TRANSACTION) {
                refusedByFour("move(" + t + ", " + both + ", 1)", x -> x.move(t, both, 1), BAD);
            }
            for (int amount : NO_AMOUNT) {
                refusedByFour("move(1, " + both + ", " + amount + ")", x -> x.move(1, both, amount), BAD);
            }
        }
        for (int k : new int[] {0, 2, 10, 11}) {
            refusedByFour("move of the same busy key " + k, x -> x.move(1, pair(k, k), 1), BAD);
        }
    }

    private static void moveOrderBadBeforeFull() {
        sentence = "5: tested in this order: BAD; FULL";
        for (int both : new int[] {pair(1, 6), pair(6, 0), pair(1, 0)}) {
            refused(() -> onlyOpen(2), "move(1, " + both + ", 1)", x -> x.move(1, both, 1), BAD);
            refused(() -> onlyOpen(2), "move(4, " + both + ", 1)", x -> x.move(4, both, 1), BAD);
            refused(() -> onlyOpen(2), "move(2, " + both + ", 10000)", x -> x.move(2, both, 10000), BAD);
            refused(() -> onlyOpen(2), "move(2, " + both + ", GREATEST)", x -> x.move(2, both, GREATEST), BAD);
        }
        for (int both : new int[] {pair(0, 6), pair(6, 1), pair(0, 1)}) {
            refused(() -> onlyOpen(2), "move(2, " + both + ", -1)", x -> x.move(2, both, -1), BAD);
            refused(() -> onlyOpen(2), "move(2, " + both + ", LEAST)", x -> x.move(2, both, LEAST), BAD);
        }
        for (int k : new int[] {0, 1, 10, 11}) {
            refused(() -> onlyOpen(2), "move of the same full key " + k, x -> x.move(2, pair(k, k), 1), BAD);
        }
    }

    private static void moveOrderBusyBeforeFull() {
        sentence = "5: tested in this order: BUSY; FULL";
        refusedByFour("the first is busy and too small", x -> x.move(2, pair(1, 6), 1), BUSY);
        refusedByFour("the second is busy and too great", x -> x.move(2, pair(6, 0), 1), BUSY);
        refusedByFour("the first is busy, the second too great", x -> x.move(0, pair(11, 0), 1), BUSY);
        refusedByFour("the second is busy, the first too small", x -> x.move(1, pair(1, 11), 1), BUSY);
        refusedByFour("both are busy and full", x -> x.move(2, pair(1, 0), 1), BUSY);
        refusedByFour("the first is free and too small, the second busy", x -> x.move(2, pair(5, 4), 1), BUSY);
    }

    // ---- Promise 6 ----

    private static void commitOfTransactionNotOpen() {
        sentence = "6: BAD when t is not open";
        for (int i = 0; i <= 7; i++) {
            int trouble = i;
            refusedWhenNotOpen("commit with trouble " + trouble, (x, t) -> x.commit(t, trouble, 1), BAD);
        }
    }

    private static void commitOfTroubleOutOfRange() {
        sentence = "6: BAD when trouble is not 0 .. 7";
        for (int trouble : NO_TROUBLE) {
            for (int i = 0; i < 12; i++) {
                int t = i / 3;
                int m = i % 3;
                refusedByFour("commit(" + t + ", " + trouble + ", " + m + ")", x -> x.commit(t, trouble, m), BAD);
            }
        }
    }

    private static void commitOfMachineOutOfRangeForAllTroubles() {
        sentence = "6: BAD when m is not 0 .. 2 (for all troubles)";
        for (int m : NO_KEY_MACHINE) {
            for (int i = 0; i < 32; i++) {
                int t = i / 8;
                int trouble = i % 8;
                refusedByFour("commit(" + t + ", " + trouble + ", " + m + ")", x -> x.commit(t, trouble, m), BAD);
            }
        }
        refusedByFour("commit(4, 8, 3)", x -> x.commit(4, 8, 3), BAD);
    }

    // ---- Promises 7 to 14 ----

    private static void abortOfTransactionNotOpen() {
        sentence = "7: BAD when it is not open";
        refusedWhenNotOpen("abort", (x, t) -> x.abort(t), BAD);
    }

    private static void crashOfMachineOutOfRange() {
        sentence = "8: BAD when m is out of range";
        refusedByAllStores(NO_MACHINE, "crash", (x, m) -> x.crash(m), BAD);
    }

    private static void peekOfKeyOutOfRange() {
        sentence = "9: BAD when k is not 0 .. 11";
        refusedByAllStores(NO_KEY, "peek", (x, k) -> x.peek(k), BAD);
    }

    private static void holderOfKeyOutOfRange() {
        sentence = "11: BAD when k is not 0 .. 11";
        refusedByAllStores(NO_KEY, "holder", (x, k) -> x.holder(k), BAD);
    }

    private static void holderOfKeyThatNobodyHolds() {
        sentence = "11: FULL when none does";
        int[] free = {3, 5, 6, 7, 8, 9};
        refusedByAllStores(free, "holder", (x, k) -> x.holder(k), FULL);
        for (int i = 0; i < 12; i++) {
            int k = i;
            refused(TwoPhaseStore::new, "holder(" + k + ")", x -> x.holder(k), FULL);
            refused(RefusalTests::noneOpen, "holder(" + k + ")", x -> x.holder(k), FULL);
            refused(() -> onlyOpen(2), "holder(" + k + ")", x -> x.holder(k), FULL);
        }
    }

    private static void keysOfTransactionNotOpen() {
        sentence = "12: 0 when it is not open";
        refusedWhenNotOpen("keys", (x, t) -> x.keys(t), 0);
    }

    private static void writtenOfTransactionNotOpen() {
        sentence = "13: 0 when it is not open";
        refusedWhenNotOpen("written", (x, t) -> x.written(t), 0);
    }

    private static void sumOfMachineOutOfRange() {
        sentence = "14: BAD when it is not 0 .. 2";
        refusedByAllStores(NO_KEY_MACHINE, "sum", (x, m) -> x.sum(m), BAD);
    }
}
