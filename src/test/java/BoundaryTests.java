// The boundary cases that are allowed, a test for each sentence of the
// document that names one: the first and the last of everything, the empty
// and the full store, the least and the greatest answers. What is refused is
// in RefusalTests.
public final class BoundaryTests {
    private static final int BAD = -100000;
    private static final int FULL = -200000;
    private static final int BUSY = -300000;
    private static final int ALL_KEYS = 4095;

    private static int wrong = 0;
    private static String sentence = "";

    private static void due(String call, int got, int want) {
        if (got != want) {
            wrong++;
            System.out.println(sentence + ": " + call + " answered " + got + ", due is " + want);
        }
    }

    public static void main(String[] args) {
        calls512Commits();
        calls512Puts();
        keyIsOnMachineKMod3();
        machine3HoldsNoKeys();
        keyIsHeldByOneAtMost();
        writesAreSeenByItselfOnly();
        numbersAreWhatItWroteLast();
        closedTransactionHoldsNoKeys();
        rolledBackWritesDoNotCount();
        machinesComeBackAtOnce();
        committedIsNotLost();

        newNumbersAre0();
        newStoreHasNoneOpen();
        beginTakesTheLeastNumber();
        beginUpToFour();

        getFirstAndLast();
        getHoldsFromThenOn();
        getIsNotBusyForTheHolder();
        getIsNotBusyWhenTheKeyIsFreeAgain();

        putFirstAndLast();
        putLeastAndGreatest();
        putAnswersWhatItSaw();
        putIsNotBusyForTheHolder();
        putIsNotBusyWhenTheKeyIsFreeAgain();

        moveEveryPair();
        moveFirstAndLastPair();
        moveLeastAmount();
        moveGreatestAmount();
        moveToTheLeastNumber();
        moveToTheGreatestNumber();
        moveSeesItsOwnNumbers();
        moveIsNotBusyForTheHolder();
        moveIsNotBusyWhenTheKeysAreFreeAgain();

        commitFirstAndLastTransaction();
        commitOfNoKeyAndOfAll();
        commitTrouble0();
        commitTrouble1();
        commitTrouble2();
        commitTrouble3();
        commitTroubles4And5();
        commitTroubles6And7();

        abortOfNoKeyAndOfAll();
        abortCountsAKeyOnce();
        crashOfAnEmptyStore();
        crashOfNoneAndOfFour();
        crashOfTheLeader();
        peekFirstAndLast();
        peekIsOfTheLastCommitted();
        openNoneAndFour();
        holderFirstAndLast();
        keysNoneAndAll();
        writtenNoneAndAll();
        sumLeastAndGreatest();
        totalLeastAndGreatest();
        commitsNoneAndCounted();
        System.out.println("BoundaryTests: " + wrong + " wrong");
        if (wrong != 0) {
            System.exit(1);
        }
    }

    private static TwoPhaseStore withOpen(int count) {
        TwoPhaseStore x = new TwoPhaseStore();
        for (int t = 0; t < count; t++) {
            due("begin()", x.begin(), t);
        }
        return x;
    }

    // Every key has the number v, and no transaction is open.
    private static TwoPhaseStore filledWith(int v) {
        TwoPhaseStore x = withOpen(1);
        for (int k = 0; k < 12; k++) {
            due("put(0, " + k + ", " + v + ")", x.put(0, k, v), 0);
        }
        due("commit(0, 0, 0)", x.commit(0, 0, 0), 1);
        return x;
    }

    // Transaction t has key 3 * t (on machine 0) and key 1 + 3 * t (on
    // machine 1); the keys on machine 2 are free, and all numbers are 0.
    private static TwoPhaseStore fourOnMachines0And1() {
        TwoPhaseStore x = withOpen(4);
        for (int t = 0; t < 4; t++) {
            due("put", x.put(t, 3 * t, 10 + t), 0);
            due("get", x.get(t, 1 + 3 * t), 0);
        }
        return x;
    }

    private static int pair(int first, int second) {
        return first + 12 * second;
    }

    // The ways in which a transaction that has key k stops being open: 0 .. 7
    // a commit with that trouble, then abort, then a crash of the leader and
    // one of the machine that k is on.
    private static final int WAYS = 11;

    private static void end(TwoPhaseStore x, int t, int k, int way) {
        if (way <= 7) {
            due("commit(" + t + ", " + way + ", " + k % 3 + ")", x.commit(t, way, k % 3), committedBy(way) ? 1 : 0);
        } else if (way == 8) {
            x.abort(t);
        } else {
            x.crash(way == 9 ? 3 : k % 3);
        }
    }

    private static boolean committedBy(int way) {
        return way <= 7 && way != 1 && way != 2;
    }

    private static boolean leaderBreaksBy(int way) {
        return way == 2 || way == 3 || way == 9;
    }

    // ---- What it is, and Terms ----

    private static void calls512Commits() {
        sentence = "an object is used for at most 512 calls";
        TwoPhaseStore x = new TwoPhaseStore();
        for (int call = 1; call < 511; call += 2) {
            due("begin(), call " + call, x.begin(), 0);
            due("commit(0, 0, 0), call " + (call + 1), x.commit(0, 0, 0), 1);
        }
        due("open(), call 511", x.open(), 0);
        due("commits(), call 512", x.commits(), 255);
    }

    private static void calls512Puts() {
        sentence = "an object is used for at most 512 calls";
        TwoPhaseStore x = withOpen(4);
        for (int call = 5; call <= 511; call++) {
            due("put(3, 11, " + call + ")", x.put(3, 11, call), call == 5 ? 0 : call - 1);
        }
        due("get(3, 11), call 512", x.get(3, 11), 511);
    }

    private static void keyIsOnMachineKMod3() {
        sentence = "key k is on machine k mod 3";
        for (int k = 0; k < 12; k++) {
            TwoPhaseStore x = withOpen(1);
            x.put(0, k, 1);
            due("crash(" + (k + 1) % 3 + ")", x.crash((k + 1) % 3), 0);
            due("crash(" + (k + 2) % 3 + ")", x.crash((k + 2) % 3), 0);
            due("commit(0, 0, 0)", x.commit(0, 0, 0), 1);
            for (int m = 0; m < 3; m++) {
                due("sum(" + m + ") with key " + k, x.sum(m), k % 3 == m ? 1 : 0);
            }
            x.begin();
            x.get(0, k);
            due("crash(" + k % 3 + ") with key " + k, x.crash(k % 3), 1);
        }
    }

    private static void machine3HoldsNoKeys() {
        sentence = "machine 3 holds no keys";
        TwoPhaseStore x = filledWith(1);
        due("sum(3)", x.sum(3), BAD);
        due("sum(0) and sum(1) and sum(2)", x.sum(0) + x.sum(1) + x.sum(2), x.total());
        due("total()", x.total(), 12);
    }

    private static void keyIsHeldByOneAtMost() {
        sentence = "a key is held by one transaction at most";
        for (int k = 0; k < 12; k++) {
            for (int t = 0; t < 4; t++) {
                TwoPhaseStore x = withOpen(4);
                x.get(t, k);
                for (int other = 0; other < 4; other++) {
                    x.get(other, k);
                    x.put(other, k, 1);
                    x.move(other, pair(k, (k + 1) % 12), 1);
                    x.move(other, pair((k + 1) % 12, k), 1);
                    due("keys(" + other + ")", x.keys(other) >> k & 1, other == t ? 1 : 0);
                    due("written(" + other + ")", x.written(other) >> k & 1, other == t ? 1 : 0);
                }
                due("holder(" + k + ")", x.holder(k), t);
            }
        }
    }

    private static void writesAreSeenByItselfOnly() {
        sentence = "what it writes is seen by itself only until it is committed";
        for (int k = 0; k < 12; k++) {
            TwoPhaseStore x = filledWith(5);
            x.begin();
            x.put(0, k, -9999);
            due("get(0, " + k + ")", x.get(0, k), -9999);
            due("peek(" + k + ")", x.peek(k), 5);
            due("sum(" + k % 3 + ")", x.sum(k % 3), 20);
            due("total()", x.total(), 60);
            x.commit(0, 0, 0);
            due("peek(" + k + ") when committed", x.peek(k), -9999);
            due("sum(" + k % 3 + ") when committed", x.sum(k % 3), 15 - 9999);
            due("total() when committed", x.total(), 55 - 9999);
            x.begin();
            due("get(0, " + k + ") when committed", x.get(0, k), -9999);
        }
    }

    private static void numbersAreWhatItWroteLast() {
        sentence = "then the numbers of the keys are what it wrote last";
        TwoPhaseStore x = filledWith(5);
        x.begin();
        x.put(0, 0, 9999);
        x.put(0, 0, 1);
        x.put(0, 11, 2);
        x.move(0, pair(11, 0), 3);
        x.put(0, 6, 9);
        x.put(0, 6, 5);
        x.put(0, 7, 0);
        x.get(0, 8);
        due("commit(0, 0, 0)", x.commit(0, 0, 0), 1);
        due("peek(0)", x.peek(0), 4);
        due("peek(11)", x.peek(11), -1);
        due("peek(6)", x.peek(6), 5);
        due("peek(7)", x.peek(7), 0);
        due("peek(8), only read", x.peek(8), 5);
    }

    private static void closedTransactionHoldsNoKeys() {
        sentence = "not open any more, it holds no keys";
        for (int way = 0; way < WAYS; way++) {
            for (int t = 0; t < 4; t++) {
                TwoPhaseStore x = withOpen(4);
                for (int k = 0; k < 12; k++) {
                    x.put(t, k, 1);
                }
                end(x, t, 11, way);
                due("open()", x.open() >> t & 1, 0);
                due("keys(" + t + ")", x.keys(t), 0);
                due("written(" + t + ")", x.written(t), 0);
                for (int k = 0; k < 12; k++) {
                    due("holder(" + k + ")", x.holder(k), FULL);
                }
                for (int i = 0; i < 4; i++) {
                    x.begin();
                }
                due("open() when opened again", x.open(), 15);
                due("keys(" + t + ") when opened again", x.keys(t), 0);
                due("written(" + t + ") when opened again", x.written(t), 0);
            }
        }
    }

    private static void rolledBackWritesDoNotCount() {
        sentence = "when it was rolled back nothing that it wrote counts";
        for (int way = 0; way < WAYS; way++) {
            for (int k = 0; k < 12; k++) {
                TwoPhaseStore x = filledWith(5);
                x.begin();
                x.put(0, k, 9);
                x.put(0, (k + 1) % 12, 9);
                end(x, 0, k, way);
                int want = committedBy(way) ? 9 : 5;
                due("peek(" + k + ")", x.peek(k), want);
                due("peek(" + (k + 1) % 12 + ")", x.peek((k + 1) % 12), want);
                due("total()", x.total(), 50 + 2 * want);
                due("commits()", x.commits(), committedBy(way) ? 2 : 1);
                x.begin();
                due("get(0, " + k + ") by the next", x.get(0, k), want);
                due("commit(0, 0, 0) by the next", x.commit(0, 0, 0), 1);
                due("peek(" + k + ") after the next", x.peek(k), want);
            }
        }
    }

    private static void machinesComeBackAtOnce() {
        sentence = "machines come back at once";
        for (int m = 0; m < 4; m++) {
            TwoPhaseStore x = filledWith(5);
            due("crash(" + m + ")", x.crash(m), 0);
            due("begin()", x.begin(), 0);
            due("put(0, " + m + ", 6)", x.put(0, m, 6), 5);
            due("commit(0, 0, 0)", x.commit(0, 0, 0), 1);
            due("peek(" + m + ")", x.peek(m), 6);
            due("crash(" + m + ") again", x.crash(m), 0);
        }
    }

    private static void committedIsNotLost() {
        sentence = "nothing that was committed is lost";
        for (int m = 0; m < 4; m++) {
            TwoPhaseStore x = filledWith(-9999);
            x.begin();
            x.put(0, 11, 9999);
            x.crash(m);
            x.crash(m);
            for (int k = 0; k < 12; k++) {
                due("peek(" + k + ")", x.peek(k), -9999);
            }
            due("commits()", x.commits(), 1);
        }
    }

    // ---- Promises 1 and 2 ----

    private static void newNumbersAre0() {
        sentence = "1: all numbers 0";
        TwoPhaseStore x = new TwoPhaseStore();
        for (int k = 0; k < 12; k++) {
            due("peek(" + k + ")", x.peek(k), 0);
        }
        for (int m = 0; m < 3; m++) {
            due("sum(" + m + ")", x.sum(m), 0);
        }
        due("total()", x.total(), 0);
        due("commits()", x.commits(), 0);
        x.begin();
        for (int k = 0; k < 12; k++) {
            due("get(0, " + k + ")", x.get(0, k), 0);
        }
    }

    private static void newStoreHasNoneOpen() {
        sentence = "1: no transaction open";
        TwoPhaseStore x = new TwoPhaseStore();
        due("open()", x.open(), 0);
        for (int t = 0; t < 4; t++) {
            due("get(" + t + ", 0)", x.get(t, 0), BAD);
            due("put(" + t + ", 0, 1)", x.put(t, 0, 1), BAD);
            due("move(" + t + ", 1, 1)", x.move(t, 1, 1), BAD);
            due("commit(" + t + ", 0, 0)", x.commit(t, 0, 0), BAD);
            due("abort(" + t + ")", x.abort(t), BAD);
            due("keys(" + t + ")", x.keys(t), 0);
            due("written(" + t + ")", x.written(t), 0);
        }
        for (int k = 0; k < 12; k++) {
            due("holder(" + k + ")", x.holder(k), FULL);
        }
        for (int m = 0; m < 4; m++) {
            due("crash(" + m + ")", x.crash(m), 0);
        }
        due("begin()", x.begin(), 0);
    }

    private static void beginTakesTheLeastNumber() {
        sentence = "2: opens the transaction with the least number that is not open";
        for (int open = 0; open < 16; open++) {
            TwoPhaseStore x = withOpen(4);
            for (int t = 3; t >= 0; t--) {
                if ((open >> t & 1) == 0) {
                    x.abort(t);
                }
            }
            int bits = open;
            for (int t = 0; t < 4; t++) {
                if ((open >> t & 1) == 0) {
                    due("begin() with " + bits, x.begin(), t);
                    bits |= 1 << t;
                    due("open()", x.open(), bits);
                }
            }
            due("begin() with four", x.begin(), FULL);
        }
    }

    private static void beginUpToFour() {
        sentence = "2: FULL when four are open";
        TwoPhaseStore x = withOpen(4);
        due("begin() the fifth", x.begin(), FULL);
        due("begin() once more", x.begin(), FULL);
        due("open()", x.open(), 15);
        for (int way = 0; way < WAYS; way++) {
            x = withOpen(4);
            x.put(3, 11, 1);
            end(x, 3, 11, way);
            boolean allGone = leaderBreaksBy(way);
            due("begin() with a place again", x.begin(), allGone ? 0 : 3);
        }
    }

    // ---- Promise 3 ----

    private static void getFirstAndLast() {
        sentence = "3: the number of key k as transaction t sees it, k 0 .. 11";
        for (int t = 0; t < 4; t++) {
            for (int k = 0; k < 12; k++) {
                TwoPhaseStore x = filledWith(k % 2 == 0 ? 9999 : -9999);
                for (int i = 0; i <= t; i++) {
                    x.begin();
                }
                due("get(" + t + ", " + k + ")", x.get(t, k), k % 2 == 0 ? 9999 : -9999);
                x.put(t, k, k - 5);
                due("get(" + t + ", " + k + ") of its own", x.get(t, k), k - 5);
            }
        }
    }

    private static void getHoldsFromThenOn() {
        sentence = "3: t holds the key from then on";
        for (int t = 0; t < 4; t++) {
            TwoPhaseStore x = withOpen(4);
            for (int k = 0; k < 12; k++) {
                due("get(" + t + ", " + k + ")", x.get(t, k), 0);
                due("holder(" + k + ")", x.holder(k), t);
                due("keys(" + t + ")", x.keys(t), (2 << k) - 1);
                due("written(" + t + ")", x.written(t), 0);
            }
        }
    }

    private static void getIsNotBusyForTheHolder() {
        sentence = "3: BUSY when another transaction holds the key";
        for (int t = 0; t < 4; t++) {
            TwoPhaseStore x = withOpen(4);
            x.get(t, 0);
            x.put(t, 11, 4);
            due("get(" + t + ", 0)", x.get(t, 0), 0);
            due("get(" + t + ", 11)", x.get(t, 11), 4);
            due("get by another", x.get((t + 1) % 4, 0), BUSY);
            due("get by another", x.get((t + 3) % 4, 11), BUSY);
            due("get of a key between them", x.get((t + 1) % 4, 1), 0);
        }
    }

    private static void getIsNotBusyWhenTheKeyIsFreeAgain() {
        sentence = "3: BUSY when another transaction holds the key";
        for (int way = 0; way < WAYS; way++) {
            TwoPhaseStore x = withOpen(2);
            x.put(0, 11, 4);
            due("get(1, 11)", x.get(1, 11), BUSY);
            end(x, 0, 11, way);
            boolean bothGone = leaderBreaksBy(way);
            int want = committedBy(way) ? 4 : 0;
            due("get(1, 11) when it is free", x.get(1, 11), bothGone ? BAD : want);
        }
    }

    // ---- Promise 4 ----

    private static void putFirstAndLast() {
        sentence = "4: transaction t writes v to key k, and holds it from then on";
        for (int t = 0; t < 4; t++) {
            for (int k = 0; k < 12; k++) {
                TwoPhaseStore x = withOpen(t + 1);
                due("put(" + t + ", " + k + ", 7)", x.put(t, k, 7), 0);
                due("keys(" + t + ")", x.keys(t), 1 << k);
                due("written(" + t + ")", x.written(t), 1 << k);
                due("holder(" + k + ")", x.holder(k), t);
                due("get(" + t + ", " + k + ")", x.get(t, k), 7);
                due("commit(" + t + ", 0, 0)", x.commit(t, 0, 0), 1);
                due("peek(" + k + ")", x.peek(k), 7);
                due("total()", x.total(), 7);
            }
        }
    }

    private static void putLeastAndGreatest() {
        sentence = "4: v -9999 .. 9999";
        for (int k = 0; k < 12; k++) {
            TwoPhaseStore x = withOpen(1);
            due("put of the least", x.put(0, k, -9999), 0);
            due("put of the greatest", x.put(0, k, 9999), -9999);
            due("put of the one before", x.put(0, k, 9998), 9999);
            due("put of 0", x.put(0, k, 0), 9998);
            due("put of the one after the least", x.put(0, k, -9998), 0);
            due("put of the least again", x.put(0, k, -9999), -9998);
            x.commit(0, 0, 0);
            due("peek(" + k + ")", x.peek(k), -9999);
        }
    }

    private static void putAnswersWhatItSaw() {
        sentence = "4: answers the number that it saw there before";
        TwoPhaseStore x = filledWith(-9999);
        x.begin();
        due("put, seeing the committed number", x.put(0, 0, 9999), -9999);
        due("put, seeing its own", x.put(0, 0, -1), 9999);
        due("get(0, 1)", x.get(0, 1), -9999);
        due("put after a get", x.put(0, 1, 2), -9999);
        x.abort(0);
        x.begin();
        due("put after the writer was rolled back", x.put(0, 0, 3), -9999);
        due("put of the number that is there", x.put(0, 2, -9999), -9999);
        due("written(0)", x.written(0), 1 | 1 << 2);
    }

    private static void putIsNotBusyForTheHolder() {
        sentence = "4: BUSY as in get";
        for (int t = 0; t < 4; t++) {
            TwoPhaseStore x = withOpen(4);
            x.get(t, 0);
            x.put(t, 11, 4);
            due("put(" + t + ", 0, 1)", x.put(t, 0, 1), 0);
            due("put(" + t + ", 11, 1)", x.put(t, 11, 1), 4);
            due("put by another", x.put((t + 1) % 4, 0, 2), BUSY);
            due("put by another", x.put((t + 3) % 4, 11, 2), BUSY);
            due("put of a key between them", x.put((t + 1) % 4, 10, 2), 0);
        }
    }

    private static void putIsNotBusyWhenTheKeyIsFreeAgain() {
        sentence = "4: BUSY as in get";
        for (int way = 0; way < WAYS; way++) {
            TwoPhaseStore x = withOpen(2);
            x.put(0, 11, 4);
            due("put(1, 11, 6)", x.put(1, 11, 6), BUSY);
            end(x, 0, 11, way);
            boolean bothGone = leaderBreaksBy(way);
            int want = committedBy(way) ? 4 : 0;
            due("put(1, 11, 6) when it is free", x.put(1, 11, 6), bothGone ? BAD : want);
        }
    }

    // ---- Promise 5 ----

    private static void moveEveryPair() {
        sentence = "5: to key both mod 12 its number less amount, and to key both / 12 its number and amount";
        for (int first = 0; first < 12; first++) {
            for (int second = 0; second < 12; second++) {
                if (first == second) {
                    continue;
                }
                TwoPhaseStore x = filledWith(100);
                x.begin();
                due("move(0, " + pair(first, second) + ", 30)", x.move(0, pair(first, second), 30), 70);
                due("keys(0)", x.keys(0), 1 << first | 1 << second);
                due("written(0)", x.written(0), 1 << first | 1 << second);
                due("holder(" + first + ")", x.holder(first), 0);
                due("holder(" + second + ")", x.holder(second), 0);
                due("get of the first", x.get(0, first), 70);
                due("get of the second", x.get(0, second), 130);
                due("peek of the first", x.peek(first), 100);
                due("peek of the second", x.peek(second), 100);
                x.commit(0, 0, 0);
                due("peek of the first", x.peek(first), 70);
                due("peek of the second", x.peek(second), 130);
                due("total()", x.total(), 1200);
            }
        }
    }

    private static void moveFirstAndLastPair() {
        sentence = "5: both 0 .. 143";
        for (int t = 0; t < 4; t++) {
            TwoPhaseStore x = withOpen(4);
            due("move(" + t + ", 1, 1)", x.move(t, 1, 1), -1);
            due("get(" + t + ", 0)", x.get(t, 0), 1);
            due("move(" + t + ", 142, 1)", x.move(t, 142, 1), -1);
            due("get(" + t + ", 11)", x.get(t, 11), 1);
            due("keys(" + t + ")", x.keys(t), 3 | 3 << 10);
            due("move(" + t + ", 0, 1), the same keys", x.move(t, 0, 1), BAD);
            due("move(" + t + ", 143, 1), the same keys", x.move(t, 143, 1), BAD);
            due("move(" + t + ", 11, 1)", x.move(t, 11, 1), 0);
            due("move(" + t + ", 132, 1)", x.move(t, 132, 1), 1);
        }
    }

    private static void moveLeastAmount() {
        sentence = "5: amount 0 .. 9999";
        TwoPhaseStore x = filledWith(9999);
        x.begin();
        due("move(0, 132, 0)", x.move(0, 132, 0), 9999);
        due("keys(0)", x.keys(0), 1 | 1 << 11);
        due("written(0)", x.written(0), 1 | 1 << 11);
        x = filledWith(-9999);
        x.begin();
        due("move(0, 132, 0)", x.move(0, 132, 0), -9999);
        due("get(0, 11)", x.get(0, 11), -9999);
        due("written(0)", x.written(0), 1 | 1 << 11);
    }

    private static void moveGreatestAmount() {
        sentence = "5: amount 0 .. 9999";
        TwoPhaseStore x = withOpen(1);
        due("move(0, 132, 9999)", x.move(0, 132, 9999), -9999);
        due("get(0, 11)", x.get(0, 11), 9999);
        due("move back", x.move(0, 11, 9999), 0);
        due("get(0, 0)", x.get(0, 0), 0);
        due("move back once more", x.move(0, 11, 9999), -9999);
        due("get(0, 0)", x.get(0, 0), 9999);
    }

    private static void moveToTheLeastNumber() {
        sentence = "5: FULL when a number would not be -9999 .. 9999";
        for (int amount = 0; amount <= 9999; amount += 1111) {
            TwoPhaseStore x = withOpen(1);
            x.put(0, 3, amount - 9999);
            due("move to the least number", x.move(0, pair(3, 8), amount), -9999);
            due("get(0, 8)", x.get(0, 8), amount);
            due("move of one more", x.move(0, pair(3, 8), 1), FULL);
            due("get(0, 3)", x.get(0, 3), -9999);
            due("get(0, 8)", x.get(0, 8), amount);
        }
    }

    private static void moveToTheGreatestNumber() {
        sentence = "5: FULL when a number would not be -9999 .. 9999";
        for (int amount = 0; amount <= 9999; amount += 1111) {
            TwoPhaseStore x = withOpen(1);
            x.put(0, 8, 9999 - amount);
            due("move to the greatest number", x.move(0, pair(3, 8), amount), -amount);
            due("get(0, 8)", x.get(0, 8), 9999);
            due("move of one more", x.move(0, pair(3, 8), 1), FULL);
            due("get(0, 3)", x.get(0, 3), -amount);
            due("get(0, 8)", x.get(0, 8), 9999);
        }
    }

    private static void moveSeesItsOwnNumbers() {
        sentence = "5: (as t sees them)";
        TwoPhaseStore x = filledWith(9999);
        x.begin();
        due("move to a full key", x.move(0, pair(0, 11), 1), FULL);
        x.put(0, 11, -9999);
        due("move to the key that it made empty", x.move(0, pair(0, 11), 9999), 0);
        due("get(0, 11)", x.get(0, 11), 0);
        x = withOpen(1);
        x.put(0, 4, -9999);
        due("move from the key that it made empty", x.move(0, pair(4, 5), 1), FULL);
        due("holder(5)", x.holder(5), FULL);
        x.abort(0);
        x.begin();
        due("move when that was rolled back", x.move(0, pair(4, 5), 1), -1);
    }

    private static void moveIsNotBusyForTheHolder() {
        sentence = "5: BUSY when another transaction holds one of the keys";
        for (int t = 0; t < 4; t++) {
            TwoPhaseStore x = withOpen(4);
            x.get(t, 0);
            x.put(t, 11, 4);
            int other = (t + 1) % 4;
            due("move by the holder", x.move(t, pair(0, 11), 1), -1);
            due("move by the holder of one", x.move(t, pair(11, 5), 1), 4);
            due("move by another, the first", x.move(other, pair(0, 6), 1), BUSY);
            due("move by another, the second", x.move(other, pair(6, 5), 1), BUSY);
            due("move by another, both", x.move(other, pair(11, 0), 1), BUSY);
            due("move by another of free keys", x.move(other, pair(6, 7), 1), -1);
            due("keys(" + other + ")", x.keys(other), 1 << 6 | 1 << 7);
        }
    }

    private static void moveIsNotBusyWhenTheKeysAreFreeAgain() {
        sentence = "5: BUSY when another transaction holds one of the keys";
        for (int way = 0; way < WAYS; way++) {
            TwoPhaseStore x = withOpen(2);
            x.put(0, 11, 4);
            x.get(0, 8);
            due("move(1, 8 to 11)", x.move(1, pair(8, 11), 1), BUSY);
            end(x, 0, 11, way);
            boolean bothGone = leaderBreaksBy(way);
            int want = committedBy(way) ? 3 : -1;
            due("move(1, 11 to 8) when they are free", x.move(1, pair(11, 8), 1), bothGone ? BAD : want);
        }
    }

    // ---- Promise 6 ----

    private static void commitFirstAndLastTransaction() {
        sentence = "6: commits transaction t, and answers 1 when it is committed";
        for (int t = 0; t < 4; t++) {
            TwoPhaseStore x = fourOnMachines0And1();
            due("commit(" + t + ", 0, 0)", x.commit(t, 0, 0), 1);
            due("open()", x.open(), 15 & ~(1 << t));
            due("total()", x.total(), 10 + t);
            due("peek(" + 3 * t + ")", x.peek(3 * t), 10 + t);
            due("commits()", x.commits(), 1);
            due("commit(" + t + ", 0, 0) again", x.commit(t, 0, 0), BAD);
        }
    }

    private static void commitOfNoKeyAndOfAll() {
        sentence = "6: answers 1 when it is committed, 0 when it was rolled back";
        for (int trouble = 0; trouble <= 7; trouble++) {
            for (int m = 0; m < 3; m++) {
                TwoPhaseStore x = withOpen(1);
                due("commit(0, " + trouble + ", " + m + ") of no key", x.commit(0, trouble, m), trouble == 2 ? 0 : 1);
                due("commits()", x.commits(), trouble == 2 ? 0 : 1);
                x = withOpen(4);
                for (int k = 0; k < 12; k++) {
                    x.put(3, k, 9999);
                }
                boolean back = trouble == 1 || trouble == 2;
                due("commit(3, " + trouble + ", " + m + ") of all keys", x.commit(3, trouble, m), back ? 0 : 1);
                due("total()", x.total(), back ? 0 : 119988);
                due("commits()", x.commits(), back ? 0 : 1);
                due("open()", x.open(), trouble == 2 || trouble == 3 ? 0 : 7);
            }
        }
    }

    private static void commitTrouble0() {
        sentence = "6: trouble 0 nothing";
        for (int m = 0; m < 3; m++) {
            TwoPhaseStore x = fourOnMachines0And1();
            due("commit(3, 0, " + m + ")", x.commit(3, 0, m), 1);
            due("open()", x.open(), 7);
            due("peek(9)", x.peek(9), 13);
        }
    }

    private static void commitTrouble1() {
        sentence = "6: trouble 1 machine m breaks down before it promises anything";
        for (int m = 0; m < 3; m++) {
            for (int t = 0; t < 4; t++) {
                TwoPhaseStore x = fourOnMachines0And1();
                due("commit(" + t + ", 1, " + m + ")", x.commit(t, 1, m), m < 2 ? 0 : 1);
                due("open()", x.open(), m < 2 ? 0 : 15 & ~(1 << t));
                due("total()", x.total(), m < 2 ? 0 : 10 + t);
                due("commits()", x.commits(), m < 2 ? 0 : 1);
            }
        }
    }

    private static void commitTrouble2() {
        sentence = "6: trouble 2 machine 3 breaks down when all have promised, before it decides";
        for (int m = 0; m < 3; m++) {
            for (int t = 0; t < 4; t++) {
                TwoPhaseStore x = fourOnMachines0And1();
                due("commit(" + t + ", 2, " + m + ")", x.commit(t, 2, m), 0);
                due("open()", x.open(), 0);
                due("total()", x.total(), 0);
                due("commits()", x.commits(), 0);
            }
        }
    }

    private static void commitTrouble3() {
        sentence = "6: trouble 3 machine 3 breaks down when it has decided, before it tells anybody";
        for (int m = 0; m < 3; m++) {
            for (int t = 0; t < 4; t++) {
                TwoPhaseStore x = fourOnMachines0And1();
                due("commit(" + t + ", 3, " + m + ")", x.commit(t, 3, m), 1);
                due("open()", x.open(), 0);
                due("total()", x.total(), 10 + t);
                due("commits()", x.commits(), 1);
            }
        }
    }

    private static void commitTroubles4And5() {
        for (int trouble = 4; trouble <= 5; trouble++) {
            sentence = "6: trouble " + trouble + " machine m breaks down when machine 3 has decided";
            for (int m = 0; m < 3; m++) {
                for (int t = 0; t < 4; t++) {
                    TwoPhaseStore x = fourOnMachines0And1();
                    due("commit(" + t + ", " + trouble + ", " + m + ")", x.commit(t, trouble, m), 1);
                    due("open()", x.open(), m < 2 ? 0 : 15 & ~(1 << t));
                    due("total()", x.total(), 10 + t);
                    due("commits()", x.commits(), 1);
                }
            }
        }
    }

    private static void commitTroubles6And7() {
        for (int trouble = 6; trouble <= 7; trouble++) {
            sentence = "6: trouble " + trouble + (trouble == 6 ? " messages are lost" : " messages come twice");
            for (int m = 0; m < 3; m++) {
                for (int t = 0; t < 4; t++) {
                    TwoPhaseStore x = fourOnMachines0And1();
                    x.move(t, pair(3 * t, 2), 4);
                    due("commit(" + t + ", " + trouble + ", " + m + ")", x.commit(t, trouble, m), 1);
                    due("open()", x.open(), 15 & ~(1 << t));
                    due("peek(" + 3 * t + ")", x.peek(3 * t), 6 + t);
                    due("peek(2)", x.peek(2), 4);
                    due("total()", x.total(), 10 + t);
                    due("commits()", x.commits(), 1);
                }
            }
        }
    }

    // ---- Promises 7 and 8 ----

    private static void abortOfNoKeyAndOfAll() {
        sentence = "7: answers the number of keys that it held";
        for (int t = 0; t < 4; t++) {
            for (int count = 0; count <= 12; count++) {
                TwoPhaseStore x = withOpen(4);
                for (int k = 12 - count; k < 12; k++) {
                    x.get(t, k);
                }
                due("abort(" + t + ")", x.abort(t), count);
                due("abort(" + t + ") again", x.abort(t), BAD);
                due("open()", x.open(), 15 & ~(1 << t));
            }
        }
    }

    private static void abortCountsAKeyOnce() {
        sentence = "7: answers the number of keys that it held";
        TwoPhaseStore x = withOpen(1);
        x.get(0, 0);
        x.get(0, 0);
        x.put(0, 0, 1);
        x.put(0, 0, 2);
        x.move(0, pair(0, 11), 1);
        x.move(0, pair(11, 0), 1);
        due("abort(0)", x.abort(0), 2);
    }

    private static void crashOfAnEmptyStore() {
        sentence = "8: answers how many transactions were rolled back by that";
        for (int m = 0; m < 4; m++) {
            due("crash(" + m + ") of a new store", new TwoPhaseStore().crash(m), 0);
            TwoPhaseStore x = filledWith(1);
            due("crash(" + m + ") with none open", x.crash(m), 0);
            due("total()", x.total(), 12);
        }
    }

    private static void crashOfNoneAndOfFour() {
        sentence = "8: answers how many transactions were rolled back by that";
        for (int m = 0; m < 3; m++) {
            for (int hit = 0; hit < 16; hit++) {
                TwoPhaseStore x = withOpen(4);
                for (int t = 0; t < 4; t++) {
                    x.get(t, ((hit >> t & 1) == 1 ? m : (m + 1) % 3) + 3 * t);
                }
                due("crash(" + m + ") with " + hit + " on it", x.crash(m), Integer.bitCount(hit));
                due("open()", x.open(), 15 & ~hit);
                due("crash(" + m + ") again", x.crash(m), 0);
            }
        }
        due("crash(0) with four that hold nothing", withOpen(4).crash(0), 0);
    }

    private static void crashOfTheLeader() {
        sentence = "8: when machine 3 breaks down, all open transactions are rolled back";
        for (int count = 0; count <= 4; count++) {
            TwoPhaseStore x = withOpen(count);
            due("crash(3) with none holding a key", x.crash(3), count);
            due("open()", x.open(), 0);
            due("crash(3) again", x.crash(3), 0);
        }
        due("crash(3) with keys", fourOnMachines0And1().crash(3), 4);
    }

    // ---- Promises 9 to 16 ----

    private static void peekFirstAndLast() {
        sentence = "9: the number of key k, k 0 .. 11";
        for (int k = 0; k < 12; k++) {
            TwoPhaseStore x = withOpen(1);
            x.put(0, k, 9999);
            due("peek(" + k + ") before", x.peek(k), 0);
            x.commit(0, 0, 0);
            for (int other = 0; other < 12; other++) {
                due("peek(" + other + ")", x.peek(other), other == k ? 9999 : 0);
                due("holder(" + other + ") after peek", x.holder(other), FULL);
            }
        }
    }

    private static void peekIsOfTheLastCommitted() {
        sentence = "9: as the last transaction that was committed left it";
        TwoPhaseStore x = withOpen(2);
        x.put(1, 5, 1);
        x.commit(1, 0, 0);
        x.put(0, 5, 2);
        due("peek(5) while 0 writes", x.peek(5), 1);
        x.commit(0, 0, 0);
        due("peek(5) when 0 is committed", x.peek(5), 2);
        x.begin();
        x.put(0, 5, 3);
        x.abort(0);
        due("peek(5) when the last was rolled back", x.peek(5), 2);
        x.begin();
        x.commit(0, 0, 0);
        due("peek(5) when the last wrote nothing", x.peek(5), 2);
    }

    private static void openNoneAndFour() {
        sentence = "10: bit t for transaction t";
        for (int open = 0; open < 16; open++) {
            TwoPhaseStore x = withOpen(4);
            for (int t = 0; t < 4; t++) {
                if ((open >> t & 1) == 0) {
                    x.abort(t);
                }
            }
            due("open()", x.open(), open);
        }
    }

    private static void holderFirstAndLast() {
        sentence = "11: the transaction that holds key k; FULL when none does";
        for (int k = 0; k < 12; k++) {
            for (int t = 0; t < 4; t++) {
                TwoPhaseStore x = withOpen(4);
                due("holder(" + k + ") of none", x.holder(k), FULL);
                x.get(t, k);
                due("holder(" + k + ")", x.holder(k), t);
                due("holder of the next", x.holder((k + 1) % 12), FULL);
                x.abort(t);
                due("holder(" + k + ") of none again", x.holder(k), FULL);
            }
        }
    }

    private static void keysNoneAndAll() {
        sentence = "12: the keys that transaction t holds: bit k for key k";
        for (int t = 0; t < 4; t++) {
            TwoPhaseStore x = withOpen(4);
            due("keys(" + t + ") of none", x.keys(t), 0);
            int bits = 0;
            for (int k = 11; k >= 0; k--) {
                x.get(t, k);
                bits |= 1 << k;
                due("keys(" + t + ")", x.keys(t), bits);
            }
            due("keys(" + t + ") of all", x.keys(t), ALL_KEYS);
            due("keys of another", x.keys((t + 1) % 4), 0);
        }
    }

    private static void writtenNoneAndAll() {
        sentence = "13: the keys that transaction t has written: bit k for key k";
        for (int t = 0; t < 4; t++) {
            TwoPhaseStore x = withOpen(4);
            due("written(" + t + ") of none", x.written(t), 0);
            int bits = 0;
            for (int k = 11; k >= 0; k--) {
                x.get(t, k);
                due("written(" + t + ") after get", x.written(t), bits);
                x.put(t, k, 0);
                bits |= 1 << k;
                due("written(" + t + ") after put", x.written(t), bits);
            }
            due("written(" + t + ") of all", x.written(t), ALL_KEYS);
            due("written of another", x.written((t + 1) % 4), 0);
        }
    }

    private static void sumLeastAndGreatest() {
        sentence = "14: the sum of the numbers, as peek gives them, of all keys on machine m";
        for (int m = 0; m < 3; m++) {
            due("sum(" + m + "), the greatest", filledWith(9999).sum(m), 39996);
            due("sum(" + m + "), the least", filledWith(-9999).sum(m), -39996);
            TwoPhaseStore x = withOpen(1);
            for (int k = m; k < 12; k += 3) {
                x.put(0, k, 1 << k);
            }
            due("sum(" + m + ") before", x.sum(m), 0);
            x.commit(0, 0, 0);
            due("sum(" + m + ")", x.sum(m), 0x249 << m);
            due("sum of the next", x.sum((m + 1) % 3), 0);
            due("sum of the one after", x.sum((m + 2) % 3), 0);
        }
    }

    private static void totalLeastAndGreatest() {
        sentence = "15: the sum of the numbers of all keys";
        due("total(), the greatest", filledWith(9999).total(), 119988);
        due("total(), the least", filledWith(-9999).total(), -119988);
        // A total may well be the number of BAD: it is no refusal then.
        TwoPhaseStore x = filledWith(-9999);
        x.begin();
        x.put(0, 0, 0);
        x.put(0, 11, -10);
        due("total() before", x.total(), -119988);
        x.commit(0, 0, 0);
        due("total()", x.total(), -100000);
        for (int k = 0; k < 12; k++) {
            x = withOpen(1);
            x.put(0, k, -1);
            x.commit(0, 0, 0);
            due("total() with key " + k, x.total(), -1);
        }
    }

    private static void commitsNoneAndCounted() {
        sentence = "16: the number of transactions that were committed so far";
        TwoPhaseStore x = new TwoPhaseStore();
        due("commits() of a new store", x.commits(), 0);
        int count = 0;
        for (int way = 0; way < WAYS; way++) {
            x.begin();
            due("commits() while one is open", x.commits(), count);
            x.put(0, 4, way);
            end(x, 0, 4, way);
            count += committedBy(way) ? 1 : 0;
            due("commits()", x.commits(), count);
        }
        x.begin();
        due("commit(0, 8, 0)", x.commit(0, 8, 0), BAD);
        due("commits() after a refused commit", x.commits(), count);
        due("commit(0, 0, 0) of nothing", x.commit(0, 0, 0), 1);
        due("commits()", x.commits(), count + 1);
    }
}
