/**
 * A small store whose only lasting thing is a row of written records.
 *
 * Every state is read out of the row; none is kept beside it. Three marks cut the row:
 * 0 <= safe <= committed <= written <= RECORDS. The records before safe tell the safe state,
 * those before committed what has been committed, and all written ones the current state.
 * Since every change made while a transaction is open belongs to it, the open transaction's
 * records are just those from committed on.
 */
public final class LogStore {
    public static final int NONE = -1;
    public static final int OK = 0;
    public static final int BUSY = -2;

    private static final int KEYS = 16;

    // A call writes one record at most, and an object is used for at most 512 calls.
    private static final int RECORDS = 512;

    private final int[] recordKey = new int[RECORDS];
    private final int[] recordValue = new int[RECORDS];
    private final boolean[] recordIsPut = new boolean[RECORDS];

    private int safe = 0;
    private int committed = 0;
    private int written = 0;
    private boolean open = false;

    public LogStore() {
    }

    public int begin() {
        if (open) {
            return BUSY;
        }
        open = true;
        return OK;
    }

    public boolean put(int k, int v) {
        if (!isKey(k)) {
            return false;
        }
        return write(k, v, true);
    }

    public boolean remove(int k) {
        if (!isThere(k, written)) {
            return false;
        }
        return write(k, 0, false);
    }

    public int commit() {
        if (!open) {
            return NONE;
        }
        committed = written;
        open = false;
        return OK;
    }

    public int abort() {
        if (!open) {
            return NONE;
        }
        written = committed;
        open = false;
        return OK;
    }

    public void sync() {
        safe = committed;
    }

    /**
     * Closes up the row over records that no state needs any more. The open transaction's
     * records all stay, since pending() counts them and abort() must be able to drop them.
     */
    public void clean() {
        int newSafe = keepNeeded(0, safe, 0);
        int newCommitted = keepNeeded(safe, committed, newSafe);
        int newWritten = keepAll(committed, written, newCommitted);
        safe = newSafe;
        committed = newCommitted;
        written = newWritten;
    }

    public void crash() {
        committed = safe;
        written = safe;
        open = false;
    }

    public boolean has(int k) {
        return isThere(k, written);
    }

    public int get(int k) {
        return valueOf(k, written);
    }

    public int next(int k) {
        int first = k < 0 ? 0 : k;
        for (int key = first; key < KEYS; key++) {
            if (isThere(key, written)) {
                return key;
            }
        }
        return NONE;
    }

    public int count() {
        int found = 0;
        for (int key = 0; key < KEYS; key++) {
            if (isThere(key, written)) {
                found++;
            }
        }
        return found;
    }

    public int safeKeys() {
        int bits = 0;
        for (int key = 0; key < KEYS; key++) {
            if (isThere(key, safe)) {
                bits |= 1 << key;
            }
        }
        return bits;
    }

    public int safeValue(int k) {
        return valueOf(k, safe);
    }

    public int unsafe() {
        int bits = 0;
        for (int key = 0; key < KEYS; key++) {
            if (differs(key)) {
                bits |= 1 << key;
            }
        }
        return bits;
    }

    public int pending() {
        return written - committed;
    }

    private boolean isKey(int k) {
        return k >= 0 && k < KEYS;
    }

    // A full row can only be met after the 512th call, where the answer is free: it refuses.
    private boolean write(int k, int v, boolean isPut) {
        if (written >= RECORDS) {
            return false;
        }
        recordKey[written] = k;
        recordValue[written] = v;
        recordIsPut[written] = isPut;
        written++;
        if (!open) {
            committed = written;
        }
        return true;
    }

    // From the end on back, since a later record of a key outdoes an earlier one.
    private int lastRecord(int k, int end) {
        for (int i = end - 1; i >= 0; i--) {
            if (recordKey[i] == k) {
                return i;
            }
        }
        return NONE;
    }

    private boolean isThere(int k, int end) {
        int last = lastRecord(k, end);
        return last != NONE && recordIsPut[last];
    }

    private int valueOf(int k, int end) {
        int last = lastRecord(k, end);
        return last != NONE && recordIsPut[last] ? recordValue[last] : 0;
    }

    // Values alone don't tell: a key with value 0 is not the same as no key.
    private boolean differs(int k) {
        return isThere(k, written) != isThere(k, safe) || valueOf(k, written) != valueOf(k, safe);
    }

    // Moving down in place is safe: to never passes i, so no record is lost before it was looked at.
    private int keepNeeded(int from, int end, int kept) {
        int to = kept;
        for (int i = from; i < end; i++) {
            if (isNeeded(i, end, to)) {
                move(i, to);
                to++;
            }
        }
        return to;
    }

    private int keepAll(int from, int end, int kept) {
        int to = kept;
        for (int i = from; i < end; i++) {
            move(i, to);
            to++;
        }
        return to;
    }

    // A removal is only needed over a put that stays before it. The look back from end halts at i at
    // the latest, so it meets no record that has been moved already.
    private boolean isNeeded(int i, int end, int kept) {
        int k = recordKey[i];
        if (lastRecord(k, end) != i) {
            return false;
        }
        return recordIsPut[i] || isThere(k, kept);
    }

    private void move(int i, int to) {
        recordKey[to] = recordKey[i];
        recordValue[to] = recordValue[i];
        recordIsPut[to] = recordIsPut[i];
    }
}
