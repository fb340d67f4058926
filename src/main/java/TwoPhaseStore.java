public final class TwoPhaseStore {
    public static final int BAD = -100000;
    public static final int FULL = -200000;
    public static final int BUSY = -300000;

    private static final int KEYS = 12;
    private static final int MACHINES = 3;
    private static final int LEADER = 3;
    private static final int TRANSACTIONS = 4;
    private static final int GREATEST = 9999;
    private static final int NOBODY = -1;

    // Bits 0, 3, 6 and 9; shifted by m, they are the keys on machine m.
    private static final int KEYS_ON_MACHINE_0 = 0x249;

    private static final int BREAKS_BEFORE_PROMISE = 1;
    private static final int LEADER_BREAKS_UNDECIDED = 2;
    private static final int LEADER_BREAKS_DECIDED = 3;
    private static final int BREAKS_BEFORE_HEARING = 4;
    private static final int BREAKS_BEFORE_ANSWER = 5;
    private static final int LAST_TROUBLE = 7;

    private final int[] number = new int[KEYS];

    // One draft for each key is enough, as only the transaction that holds
    // a key can have written it.
    private final int[] draft = new int[KEYS];

    // Bit k for key k. Both are 0 for a transaction that is not open.
    private final int[] heldBy = new int[TRANSACTIONS];
    private final int[] writtenBy = new int[TRANSACTIONS];

    private int openBits;
    private int committed;

    public TwoPhaseStore() {
        openBits = 0;
        committed = 0;
    }

    public int begin() {
        for (int t = 0; t < TRANSACTIONS; t++) {
            if (!isOpen(t)) {
                openBits |= 1 << t;
                return t;
            }
        }
        return FULL;
    }

    public int get(int t, int k) {
        if (!isOpen(t) || !isKey(k)) {
            return BAD;
        }
        if (isHeldByAnother(t, k)) {
            return BUSY;
        }
        heldBy[t] |= 1 << k;
        return numberSeen(t, k);
    }

    public int put(int t, int k, int v) {
        if (!isOpen(t) || !isKey(k) || !isNumber(v)) {
            return BAD;
        }
        if (isHeldByAnother(t, k)) {
            return BUSY;
        }
        int before = numberSeen(t, k);
        write(t, k, v);
        return before;
    }

    public int move(int t, int both, int amount) {
        if (!isOpen(t) || both < 0 || both >= KEYS * KEYS) {
            return BAD;
        }
        int from = both % KEYS;
        int to = both / KEYS;
        if (from == to || amount < 0 || amount > GREATEST) {
            return BAD;
        }
        if (isHeldByAnother(t, from) || isHeldByAnother(t, to)) {
            return BUSY;
        }
        int less = numberSeen(t, from) - amount;
        int more = numberSeen(t, to) + amount;
        if (!isNumber(less) || !isNumber(more)) {
            return FULL;
        }
        write(t, from, less);
        write(t, to, more);
        return less;
    }

    public int commit(int t, int trouble, int m) {
        if (!isOpen(t) || trouble < 0 || trouble > LAST_TROUBLE || !isKeyMachine(m)) {
            return BAD;
        }
        if (trouble == BREAKS_BEFORE_PROMISE) {
            breakDown(m);
        }
        if (trouble == LEADER_BREAKS_UNDECIDED) {
            breakDown(LEADER);
        }
        if (!isOpen(t)) {
            return 0;
        }
        // From here on it is decided, and no breakdown can undo it. So it is
        // carried out first, and the later breakdowns find only the others.
        // Lost and doubled messages (6 and 7) change nothing: what is lost is
        // sent again, and what comes twice is done once.
        carryOut(t);
        if (trouble == LEADER_BREAKS_DECIDED) {
            breakDown(LEADER);
        }
        if (trouble == BREAKS_BEFORE_HEARING || trouble == BREAKS_BEFORE_ANSWER) {
            breakDown(m);
        }
        return 1;
    }

    public int abort(int t) {
        if (!isOpen(t)) {
            return BAD;
        }
        int count = 0;
        for (int k = 0; k < KEYS; k++) {
            if (hasKey(heldBy[t], k)) {
                count++;
            }
        }
        close(t);
        return count;
    }

    public int crash(int m) {
        if (!isKeyMachine(m) && m != LEADER) {
            return BAD;
        }
        return breakDown(m);
    }

    public int peek(int k) {
        return isKey(k) ? number[k] : BAD;
    }

    public int open() {
        return openBits;
    }

    public int holder(int k) {
        if (!isKey(k)) {
            return BAD;
        }
        int t = findHolder(k);
        return t == NOBODY ? FULL : t;
    }

    public int keys(int t) {
        return isOpen(t) ? heldBy[t] : 0;
    }

    public int written(int t) {
        return isOpen(t) ? writtenBy[t] : 0;
    }

    public int sum(int m) {
        if (!isKeyMachine(m)) {
            return BAD;
        }
        int sum = 0;
        for (int k = m; k < KEYS; k += MACHINES) {
            sum += number[k];
        }
        return sum;
    }

    public int total() {
        int sum = 0;
        for (int k = 0; k < KEYS; k++) {
            sum += number[k];
        }
        return sum;
    }

    public int commits() {
        return committed;
    }

    private boolean isOpen(int t) {
        return t >= 0 && t < TRANSACTIONS && ((openBits >> t) & 1) == 1;
    }

    private static boolean isKey(int k) {
        return k >= 0 && k < KEYS;
    }

    private static boolean isNumber(int v) {
        return v >= -GREATEST && v <= GREATEST;
    }

    private static boolean isKeyMachine(int m) {
        return m >= 0 && m < MACHINES;
    }

    private static boolean hasKey(int bits, int k) {
        return ((bits >> k) & 1) == 1;
    }

    private int findHolder(int k) {
        for (int t = 0; t < TRANSACTIONS; t++) {
            if (hasKey(heldBy[t], k)) {
                return t;
            }
        }
        return NOBODY;
    }

    private boolean isHeldByAnother(int t, int k) {
        int owner = findHolder(k);
        return owner != NOBODY && owner != t;
    }

    private int numberSeen(int t, int k) {
        return hasKey(writtenBy[t], k) ? draft[k] : number[k];
    }

    private void write(int t, int k, int v) {
        draft[k] = v;
        heldBy[t] |= 1 << k;
        writtenBy[t] |= 1 << k;
    }

    private void carryOut(int t) {
        for (int k = 0; k < KEYS; k++) {
            if (hasKey(writtenBy[t], k)) {
                number[k] = draft[k];
            }
        }
        committed++;
        close(t);
    }

    private void close(int t) {
        heldBy[t] = 0;
        writtenBy[t] = 0;
        openBits &= ~(1 << t);
    }

    private int breakDown(int m) {
        int count = 0;
        for (int t = 0; t < TRANSACTIONS; t++) {
            if (isOpen(t) && isHitBy(t, m)) {
                close(t);
                count++;
            }
        }
        return count;
    }

    private boolean isHitBy(int t, int m) {
        return m == LEADER || (heldBy[t] & (KEYS_ON_MACHINE_0 << m)) != 0;
    }
}
