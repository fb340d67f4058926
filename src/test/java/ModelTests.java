import java.util.Map;
import java.util.TreeMap;

// Long runs of mixed calls, each answer held against a plain model of the
// document. The model keeps whole maps for each transaction, so that it
// shares no way of holding the state with the class.
public final class ModelTests {
    private static final int BAD = -100000;
    private static final int FULL = -200000;
    private static final int BUSY = -300000;
    private static final int RUNS = 20000;
    private static final int CALLS = 512;
    private static final int CALLS_OF_LOOK = 38;

    // A key is held when it stands in "sees", with the number seen there.
    private static final class Transaction {
        final Map<Integer, Integer> sees = new TreeMap<>();
        final Map<Integer, Integer> wrote = new TreeMap<>();
    }

    private static final class Model {
        final Map<Integer, Integer> numbers = new TreeMap<>();
        final Map<Integer, Transaction> open = new TreeMap<>();
        int commits = 0;

        int number(int k) {
            return numbers.getOrDefault(k, 0);
        }

        int seen(int t, int k) {
            return open.get(t).sees.getOrDefault(k, number(k));
        }

        boolean busy(int t, int k) {
            return open.entrySet().stream().anyMatch(e -> e.getKey() != t && e.getValue().sees.containsKey(k));
        }

        int begin() {
            for (int t = 0; t < 4; t++) {
                if (open.putIfAbsent(t, new Transaction()) == null) {
                    return t;
                }
            }
            return FULL;
        }

        int get(int t, int k) {
            if (!open.containsKey(t) || k < 0 || k > 11) {
                return BAD;
            }
            if (busy(t, k)) {
                return BUSY;
            }
            int number = seen(t, k);
            open.get(t).sees.put(k, number);
            return number;
        }

        int put(int t, int k, int v) {
            if (v < -9999 || v > 9999) {
                return BAD;
            }
            int before = get(t, k);
            if (before != BAD && before != BUSY) {
                open.get(t).sees.put(k, v);
                open.get(t).wrote.put(k, v);
            }
            return before;
        }

        int move(int t, int both, int amount) {
            if (!open.containsKey(t) || both < 0 || both > 143 || amount < 0 || amount > 9999) {
                return BAD;
            }
            int first = both % 12;
            int second = both / 12;
            if (first == second) {
                return BAD;
            }
            if (busy(t, first) || busy(t, second)) {
                return BUSY;
            }
            int less = seen(t, first) - amount;
            int more = seen(t, second) + amount;
            if (less < -9999 || more > 9999) {
                return FULL;
            }
            put(t, first, less);
            put(t, second, more);
            return less;
        }

        // Rolls back what the breakdown hits, but never the transaction
        // spared; -1 spares none.
        int breakDown(int m, int spared) {
            int before = open.size();
            open.entrySet().removeIf(e -> e.getKey() != spared
                && (m == 3 || e.getValue().sees.keySet().stream().anyMatch(k -> k % 3 == m)));
            return before - open.size();
        }

        int commit(int t, int trouble, int m) {
            if (!open.containsKey(t) || trouble < 0 || trouble > 7 || m < 0 || m > 2) {
                return BAD;
            }
            switch (trouble) {
                case 1: breakDown(m, -1); break;
                case 2: breakDown(3, -1); break;
                case 3: breakDown(3, t); break;
                case 4: case 5: breakDown(m, t); break;
                default: break;
            }
            Transaction done = open.remove(t);
            if (done == null) {
                return 0;
            }
            numbers.putAll(done.wrote);
            commits++;
            return 1;
        }

        int abort(int t) {
            Transaction done = open.remove(t);
            return done == null ? BAD : done.sees.size();
        }

        int crash(int m) {
            return m < 0 || m > 3 ? BAD : breakDown(m, -1);
        }

        int peek(int k) {
            return k < 0 || k > 11 ? BAD : number(k);
        }

        int open() {
            return bits(open);
        }

        int holder(int k) {
            if (k < 0 || k > 11) {
                return BAD;
            }
            return open.keySet().stream().filter(t -> open.get(t).sees.containsKey(k)).findFirst().orElse(FULL);
        }

        int keys(int t) {
            return open.containsKey(t) ? bits(open.get(t).sees) : 0;
        }

        int written(int t) {
            return open.containsKey(t) ? bits(open.get(t).wrote) : 0;
        }

        int sum(int m) {
            return m < 0 || m > 2 ? BAD : number(m) + number(m + 3) + number(m + 6) + number(m + 9);
        }

        int total() {
            return sum(0) + sum(1) + sum(2);
        }

        private static int bits(Map<Integer, ?> map) {
            return map.keySet().stream().mapToInt(i -> 1 << i).sum();
        }
    }

    private static int wrong = 0;

    // A fixed sequence, so that a run that fails fails again.
    private static long seed = 20261115L;

    private static int below(int bound) {
        seed = seed * 6364136223846793005L + 1442695040888963407L;
        return (int) ((seed >>> 33) % bound);
    }

    private static int oddly(int usual, int bound) {
        if (below(40) != 0) {
            return usual;
        }
        int[] odd = {-1, bound, -bound, bound + 1, 32, -32, Integer.MIN_VALUE, Integer.MAX_VALUE};
        return odd[below(odd.length)];
    }

    private static int transaction() {
        return oddly(below(4), 4);
    }

    private static int key() {
        return oddly(below(12), 12);
    }

    private static int number() {
        int[] edges = {-9999, 9999, 0, -9998, 9998};
        int usual = below(4) == 0 ? edges[below(edges.length)] : below(19999) - 9999;
        return oddly(usual, 10000);
    }

    private static int amount() {
        return oddly(below(2) == 0 ? below(100) : below(10000), 10000);
    }

    public static void main(String[] args) {
        for (int run = 0; run < RUNS && wrong < 20; run++) {
            oneRun(run);
        }
        System.out.println("ModelTests: " + wrong + " wrong");
        if (wrong != 0) {
            System.exit(1);
        }
    }

    private static void due(String where, String call, int got, int want) {
        if (got != want) {
            wrong++;
            System.out.println("run " + where + ": " + call + " answered " + got + ", due is " + want);
        }
    }

    // Short runs end in a look at the whole state soon after the last change;
    // long ones use up the 512 calls that the document allows.
    private static void oneRun(int run) {
        TwoPhaseStore store = new TwoPhaseStore();
        Model model = new Model();
        int calls = run % 8 == 0 ? CALLS - CALLS_OF_LOOK : 10 + below(60);
        // In every third run nothing ends a transaction but commit, so that
        // transactions grow and numbers gather.
        int kinds = run % 3 == 0 ? 15 : 18;
        for (int call = 1; call <= calls; call++) {
            String where = run + ", call " + call;
            int kind = below(kinds);
            if (kind < 6) {
                ask(where, store, model, kind);
            } else {
                change(where, store, model, kind);
            }
        }
        lookAtAll(run + ", at the end", store, model);
    }

    private static void change(String where, TwoPhaseStore x, Model y, int kind) {
        int t = transaction();
        switch (kind) {
            case 6: case 7:
                due(where, "begin()", x.begin(), y.begin());
                break;
            case 8: case 9:
                int read = key();
                due(where, "get(" + t + ", " + read + ")", x.get(t, read), y.get(t, read));
                break;
            case 10: case 11:
                int k = key();
                int v = number();
                due(where, "put(" + t + ", " + k + ", " + v + ")", x.put(t, k, v), y.put(t, k, v));
                break;
            case 12: case 13:
                int both = oddly(below(144), 144);
                int less = amount();
                due(where, "move(" + t + ", " + both + ", " + less + ")", x.move(t, both, less), y.move(t, both, less));
                break;
            case 14: case 15:
                int trouble = oddly(below(8), 8);
                int m = oddly(below(3), 3);
                due(where, "commit(" + t + ", " + trouble + ", " + m + ")",
                    x.commit(t, trouble, m), y.commit(t, trouble, m));
                break;
            case 16:
                due(where, "abort(" + t + ")", x.abort(t), y.abort(t));
                break;
            default:
                int broken = oddly(below(4), 4);
                due(where, "crash(" + broken + ")", x.crash(broken), y.crash(broken));
                break;
        }
    }

    private static void ask(String where, TwoPhaseStore x, Model y, int kind) {
        int t = transaction();
        int k = key();
        int m = oddly(below(3), 3);
        switch (kind) {
            case 0: due(where, "peek(" + k + ")", x.peek(k), y.peek(k)); break;
            case 1: due(where, "holder(" + k + ")", x.holder(k), y.holder(k)); break;
            case 2: due(where, "keys(" + t + ")", x.keys(t), y.keys(t)); break;
            case 3: due(where, "written(" + t + ")", x.written(t), y.written(t)); break;
            case 4: due(where, "sum(" + m + ")", x.sum(m), y.sum(m)); break;
            default: due(where, "open()", x.open(), y.open()); break;
        }
    }

    private static void lookAtAll(String where, TwoPhaseStore x, Model y) {
        for (int k = 0; k < 12; k++) {
            due(where, "peek(" + k + ")", x.peek(k), y.peek(k));
            due(where, "holder(" + k + ")", x.holder(k), y.holder(k));
        }
        for (int t = 0; t < 4; t++) {
            due(where, "keys(" + t + ")", x.keys(t), y.keys(t));
            due(where, "written(" + t + ")", x.written(t), y.written(t));
        }
        for (int m = 0; m < 3; m++) {
            due(where, "sum(" + m + ")", x.sum(m), y.sum(m));
        }
        due(where, "open()", x.open(), y.open());
        due(where, "total()", x.total(), y.total());
        due(where, "commits()", x.commits(), y.commits);
    }
}
