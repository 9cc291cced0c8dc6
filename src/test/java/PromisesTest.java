/** Each promise of the document by itself: ordinary calls, the edges it names, and wrong inputs. */
public final class PromisesTest {
    private static final int[] NOT_KEYS = {-1, 16, 17, 32, -16, Integer.MIN_VALUE, Integer.MAX_VALUE};

    private static String promise = "";
    private static int wrong = 0;

    public static void main(String[] args) {
        constants();
        newObject();
        begin();
        put();
        putOfWrongKeys();
        remove();
        removeOfWrongKeys();
        commit();
        abort();
        sync();
        syncInTransaction();
        clean();
        cleanInTransaction();
        cleanTidiesUp();
        crash();
        crashInTransaction();
        has();
        get();
        next();
        count();
        safeKeys();
        safeValue();
        unsafe();
        pending();
        objectsAreApart();
        fullUseOutsideTransaction();
        fullUseInsideTransaction();
        fullUseWithClean();
        useAfterTheLastCallStillEnds();
        System.out.println(wrong == 0 ? "all promises hold" : wrong + " answers are wrong");
        if (wrong != 0) {
            System.exit(1);
        }
    }

    private static void due(String call, long got, long want) {
        if (got != want) {
            wrong++;
            System.out.println(promise + ": " + call + " answered " + got + ", due is " + want);
        }
    }

    private static void due(String call, boolean got, boolean want) {
        due(call, got ? 1L : 0L, want ? 1L : 0L);
    }

    /** 1 -> 10 and 2 -> 20 are safe, 3 -> 30 is only committed. */
    private static LogStore filled() {
        LogStore x = new LogStore();
        x.put(1, 10);
        x.put(2, 20);
        x.sync();
        x.put(3, 30);
        return x;
    }

    private static void constants() {
        promise = "the public face";
        due("NONE", LogStore.NONE, -1);
        due("OK", LogStore.OK, 0);
        due("BUSY", LogStore.BUSY, -2);
    }

    private static void newObject() {
        promise = "promise 1";
        LogStore x = new LogStore();
        due("count()", x.count(), 0);
        due("next(0)", x.next(0), LogStore.NONE);
        due("safeKeys()", x.safeKeys(), 0);
        due("unsafe()", x.unsafe(), 0);
        due("pending()", x.pending(), 0);
        for (int k = 0; k < 16; k++) {
            due("has(" + k + ")", x.has(k), false);
            due("get(" + k + ")", x.get(k), 0);
            due("safeValue(" + k + ")", x.safeValue(k), 0);
        }
        due("commit()", x.commit(), LogStore.NONE);
        due("abort()", x.abort(), LogStore.NONE);
        due("begin()", x.begin(), LogStore.OK);
    }

    private static void begin() {
        promise = "promise 2";
        LogStore x = filled();
        due("begin()", x.begin(), LogStore.OK);
        due("get(3) after begin", x.get(3), 30);
        x.put(4, 40);
        due("begin() again", x.begin(), LogStore.BUSY);
        due("pending() after BUSY", x.pending(), 1);
        due("get(4) after BUSY", x.get(4), 40);
        due("abort() after BUSY", x.abort(), LogStore.OK);
        due("has(4): BUSY did not commit", x.has(4), false);
        due("begin() after abort", x.begin(), LogStore.OK);
        x.commit();
        due("begin() after commit", x.begin(), LogStore.OK);
        x.crash();
        due("begin() after crash", x.begin(), LogStore.OK);
        x.sync();
        x.clean();
        due("begin() after sync and clean", x.begin(), LogStore.BUSY);
    }

    private static void put() {
        promise = "promise 3";
        LogStore x = new LogStore();
        due("put(0, 7)", x.put(0, 7), true);
        due("put(15, MIN)", x.put(15, Integer.MIN_VALUE), true);
        due("put(5, MAX)", x.put(5, Integer.MAX_VALUE), true);
        due("put(6, 0)", x.put(6, 0), true);
        due("put(7, -1)", x.put(7, -1), true);
        due("get(0)", x.get(0), 7);
        due("get(15)", x.get(15), Integer.MIN_VALUE);
        due("get(5)", x.get(5), Integer.MAX_VALUE);
        due("has(6)", x.has(6), true);
        due("get(7)", x.get(7), -1);
        due("put(0, 8)", x.put(0, 8), true);
        due("get(0) put anew", x.get(0), 8);
        due("put(0, 8) of the same", x.put(0, 8), true);
        due("count()", x.count(), 5);
        due("safeKeys() before sync", x.safeKeys(), 0);
        due("abort() without begin", x.abort(), LogStore.NONE);
        due("get(0): committed at once", x.get(0), 8);
        x.begin();
        x.abort();
        due("get(0) after an abort", x.get(0), 8);
        x.sync();
        due("safeValue(0): committed at once", x.safeValue(0), 8);
    }

    private static void putOfWrongKeys() {
        promise = "promise 3";
        for (int k : NOT_KEYS) {
            LogStore x = filled();
            due("put(" + k + ", 9)", x.put(k, 9), false);
            due("count()", x.count(), 3);
            due("unsafe()", x.unsafe(), 1 << 3);
            x.begin();
            due("put(" + k + ", 9)", x.put(k, 9), false);
            due("pending()", x.pending(), 0);
            x.commit();
            x.sync();
            due("safeKeys()", x.safeKeys(), 0b1110);
        }
    }

    private static void remove() {
        promise = "promise 4";
        LogStore x = filled();
        due("remove(1)", x.remove(1), true);
        due("has(1)", x.has(1), false);
        due("get(1)", x.get(1), 0);
        due("remove(1) again", x.remove(1), false);
        due("remove(4)", x.remove(4), false);
        due("count()", x.count(), 2);
        due("safeValue(1) before sync", x.safeValue(1), 10);
        x.begin();
        x.abort();
        due("has(1): committed at once", x.has(1), false);
        x.sync();
        due("safeKeys(): committed at once", x.safeKeys(), 0b1100);
        due("put(1, 11)", x.put(1, 11), true);
        due("get(1)", x.get(1), 11);
        due("put(0, 0)", x.put(0, 0), true);
        due("remove(0) of value 0", x.remove(0), true);
        x.put(15, 150);
        due("remove(15)", x.remove(15), true);
        x.begin();
        x.remove(2);
        due("remove(2) again in the transaction", x.remove(2), false);
        x.put(2, 22);
        due("remove(2) of what the transaction put", x.remove(2), true);
        due("pending()", x.pending(), 3);
    }

    private static void removeOfWrongKeys() {
        promise = "promise 4";
        for (int k : NOT_KEYS) {
            LogStore x = filled();
            x.put(0, 1);
            x.put(15, 1);
            due("remove(" + k + ")", x.remove(k), false);
            due("count()", x.count(), 5);
            x.begin();
            due("remove(" + k + ")", x.remove(k), false);
            due("pending()", x.pending(), 0);
        }
    }

    private static void commit() {
        promise = "promise 5";
        LogStore x = filled();
        due("commit()", x.commit(), LogStore.NONE);
        x.begin();
        x.put(1, 11);
        x.remove(2);
        due("commit()", x.commit(), LogStore.OK);
        due("get(1)", x.get(1), 11);
        due("has(2)", x.has(2), false);
        due("safeValue(1) before sync", x.safeValue(1), 10);
        due("safeKeys() before sync", x.safeKeys(), 0b0110);
        due("commit() again", x.commit(), LogStore.NONE);
        due("abort() after commit", x.abort(), LogStore.NONE);
        x.begin();
        x.abort();
        due("get(1) after a later abort", x.get(1), 11);
        x.sync();
        due("safeValue(1)", x.safeValue(1), 11);
        due("safeKeys()", x.safeKeys(), 0b1010);
        x.begin();
        due("commit() of nothing", x.commit(), LogStore.OK);
    }

    private static void abort() {
        promise = "promise 6";
        LogStore x = filled();
        due("abort()", x.abort(), LogStore.NONE);
        due("count() after NONE", x.count(), 3);
        x.begin();
        x.put(1, 11);
        x.put(1, 12);
        x.remove(2);
        x.remove(3);
        x.put(3, 33);
        x.put(9, 90);
        due("abort()", x.abort(), LogStore.OK);
        due("get(1)", x.get(1), 10);
        due("get(2)", x.get(2), 20);
        due("get(3)", x.get(3), 30);
        due("has(9)", x.has(9), false);
        due("count()", x.count(), 3);
        due("pending()", x.pending(), 0);
        due("abort() again", x.abort(), LogStore.NONE);
        due("commit() after abort", x.commit(), LogStore.NONE);
        x.put(9, 91);
        due("get(9): no transaction takes it back", x.get(9), 91);
        x.sync();
        due("safeValue(9)", x.safeValue(9), 91);
        x.begin();
        due("abort() of nothing", x.abort(), LogStore.OK);
    }

    private static void sync() {
        promise = "promise 7";
        LogStore x = filled();
        due("safeKeys() before", x.safeKeys(), 0b0110);
        x.sync();
        due("safeKeys()", x.safeKeys(), 0b1110);
        due("safeValue(3)", x.safeValue(3), 30);
        due("get(3)", x.get(3), 30);
        x.remove(1);
        x.put(2, 21);
        x.sync();
        x.sync();
        due("safeKeys() with a removal", x.safeKeys(), 0b1100);
        due("safeValue(2) put anew", x.safeValue(2), 21);
    }

    private static void syncInTransaction() {
        promise = "promise 7";
        LogStore x = filled();
        x.begin();
        x.put(3, 31);
        x.remove(1);
        x.sync();
        due("safeValue(3): committed, not what is open", x.safeValue(3), 30);
        due("safeKeys()", x.safeKeys(), 0b1110);
        due("get(3)", x.get(3), 31);
        due("pending()", x.pending(), 2);
        due("unsafe()", x.unsafe(), 0b1010);
        due("commit()", x.commit(), LogStore.OK);
        due("safeValue(3): commit alone is not safe", x.safeValue(3), 30);
        due("safeKeys(): commit alone is not safe", x.safeKeys(), 0b1110);
        x.sync();
        due("safeValue(3) after sync", x.safeValue(3), 31);
        due("safeKeys() after sync", x.safeKeys(), 0b1100);
    }

    private static void clean() {
        promise = "promise 8";
        LogStore x = new LogStore();
        x.clean();
        due("count() of a cleaned new object", x.count(), 0);
        x.put(1, 10);
        x.put(1, 11);
        x.put(2, 20);
        x.remove(2);
        x.put(4, 40);
        x.sync();
        x.put(1, 12);
        x.put(1, 13);
        x.remove(4);
        x.put(5, 50);
        x.remove(5);
        for (int i = 0; i < 3; i++) {
            x.clean();
            due("safeKeys()", x.safeKeys(), 0b10010);
            due("safeValue(1)", x.safeValue(1), 11);
            due("safeValue(4)", x.safeValue(4), 40);
            due("get(1)", x.get(1), 13);
            due("count()", x.count(), 1);
            due("unsafe()", x.unsafe(), 0b10010);
            due("pending()", x.pending(), 0);
        }
        x.crash();
        due("get(1) after crash", x.get(1), 11);
        due("get(4) after crash", x.get(4), 40);
    }

    private static void cleanInTransaction() {
        promise = "promise 8";
        LogStore x = filled();
        x.put(3, 31);
        x.begin();
        x.put(3, 32);
        x.put(3, 33);
        x.remove(1);
        x.put(6, 60);
        x.remove(6);
        x.clean();
        due("pending()", x.pending(), 5);
        due("get(3)", x.get(3), 33);
        due("has(1)", x.has(1), false);
        due("safeKeys()", x.safeKeys(), 0b0110);
        due("begin()", x.begin(), LogStore.BUSY);
        due("abort()", x.abort(), LogStore.OK);
        due("get(3) after abort", x.get(3), 31);
        due("get(1) after abort", x.get(1), 10);
        due("count() after abort", x.count(), 3);
        x.crash();
        due("has(3) after crash", x.has(3), false);
    }

    // No promised answer shows that clean() tidies up at all. This class refuses only when its row is
    // full (README.md), so a row that is tidied up takes records far beyond the 512th call.
    private static void cleanTidiesUp() {
        promise = "promise 8 (tidies up)";
        LogStore x = new LogStore();
        for (int i = 0; i < 1000; i++) {
            due("put number " + i, x.put(i % 16, i), true);
            if (i % 3 == 0) {
                due("remove after put number " + i, x.remove(i % 16), true);
            }
            if (i % 20 == 0) {
                x.sync();
            }
            if (i % 50 == 49) {
                x.clean();
            }
        }
        due("get(6)", x.get(6), 998);
        due("has(7)", x.has(7), false);
    }

    private static void crash() {
        promise = "promise 9";
        LogStore x = filled();
        x.put(1, 11);
        x.remove(2);
        x.crash();
        due("get(1)", x.get(1), 10);
        due("get(2)", x.get(2), 20);
        due("has(3)", x.has(3), false);
        due("unsafe()", x.unsafe(), 0);
        due("safeKeys()", x.safeKeys(), 0b0110);
        x.sync();
        due("safeKeys(): what a crash took stays away", x.safeKeys(), 0b0110);
        x.begin();
        x.abort();
        due("get(1) after a later abort", x.get(1), 10);
        x.put(3, 35);
        x.sync();
        x.crash();
        due("get(3) put after the crash", x.get(3), 35);
        LogStore y = new LogStore();
        y.put(1, 1);
        y.crash();
        due("count() with nothing ever safe", y.count(), 0);
    }

    private static void crashInTransaction() {
        promise = "promise 9";
        LogStore x = filled();
        x.begin();
        x.put(1, 11);
        x.put(8, 80);
        x.crash();
        due("pending()", x.pending(), 0);
        due("commit()", x.commit(), LogStore.NONE);
        due("abort()", x.abort(), LogStore.NONE);
        due("get(1)", x.get(1), 10);
        due("count()", x.count(), 2);
        x.put(8, 81);
        due("pending() outside a transaction", x.pending(), 0);
        x.sync();
        due("safeValue(8)", x.safeValue(8), 81);
    }

    private static void has() {
        promise = "promise 10";
        LogStore x = new LogStore();
        for (int k = 0; k < 16; k++) {
            due("has(" + k + ")", x.has(k), false);
            x.put(k, 0);
            due("has(" + k + ")", x.has(k), true);
        }
        for (int k : NOT_KEYS) {
            due("has(" + k + ")", x.has(k), false);
        }
        x.begin();
        x.remove(4);
        due("has(4) in the transaction", x.has(4), false);
        x.abort();
        due("has(4) after abort", x.has(4), true);
    }

    private static void get() {
        promise = "promise 11";
        LogStore x = new LogStore();
        for (int k = 0; k < 16; k++) {
            x.put(k, 100 + k);
        }
        for (int k = 0; k < 16; k++) {
            due("get(" + k + ")", x.get(k), 100 + k);
        }
        for (int k : NOT_KEYS) {
            due("get(" + k + ")", x.get(k), 0);
        }
        x.remove(5);
        due("get(5) taken out", x.get(5), 0);
        x.begin();
        x.put(5, 55);
        due("get(5) in the transaction", x.get(5), 55);
        x.abort();
        due("get(5) after abort", x.get(5), 0);
    }

    private static void next() {
        promise = "promise 12";
        LogStore x = new LogStore();
        x.put(3, 0);
        x.put(15, 0);
        due("next(MIN)", x.next(Integer.MIN_VALUE), 3);
        due("next(-1)", x.next(-1), 3);
        due("next(0)", x.next(0), 3);
        due("next(3)", x.next(3), 3);
        due("next(4)", x.next(4), 15);
        due("next(15)", x.next(15), 15);
        due("next(16)", x.next(16), LogStore.NONE);
        due("next(MAX)", x.next(Integer.MAX_VALUE), LogStore.NONE);
        x.put(0, 5);
        due("next(MIN) with key 0", x.next(Integer.MIN_VALUE), 0);
        due("next(0) with key 0", x.next(0), 0);
        x.begin();
        x.remove(15);
        due("next(4) in the transaction", x.next(4), LogStore.NONE);
        x.put(9, 9);
        due("next(4) in the transaction", x.next(4), 9);
        x.abort();
        due("next(4) after abort", x.next(4), 15);
    }

    private static void count() {
        promise = "promise 13";
        LogStore x = new LogStore();
        for (int k = 0; k < 16; k++) {
            x.put(k, k % 2);
            x.put(k, k % 3);
            due("count()", x.count(), k + 1);
        }
        x.begin();
        x.remove(0);
        x.remove(15);
        due("count() in the transaction", x.count(), 14);
        x.abort();
        due("count() after abort", x.count(), 16);
        x.crash();
        due("count() after crash", x.count(), 0);
    }

    private static void safeKeys() {
        promise = "promise 14";
        LogStore x = new LogStore();
        for (int k = 0; k < 16; k++) {
            x.put(k, 0);
            due("safeKeys() before sync", x.safeKeys(), (1 << k) - 1);
            x.sync();
            due("safeKeys()", x.safeKeys(), (1 << (k + 1)) - 1);
        }
        x.remove(0);
        due("safeKeys() before sync", x.safeKeys(), 0xFFFF);
        x.sync();
        due("safeKeys()", x.safeKeys(), 0xFFFE);
    }

    private static void safeValue() {
        promise = "promise 15";
        LogStore x = new LogStore();
        for (int k = 0; k < 16; k++) {
            x.put(k, 100 + k);
            due("safeValue(" + k + ") before sync", x.safeValue(k), 0);
        }
        x.sync();
        for (int k = 0; k < 16; k++) {
            due("safeValue(" + k + ")", x.safeValue(k), 100 + k);
        }
        for (int k : NOT_KEYS) {
            due("safeValue(" + k + ")", x.safeValue(k), 0);
        }
        x.remove(4);
        x.put(5, 55);
        due("safeValue(4) before sync", x.safeValue(4), 104);
        due("safeValue(5) before sync", x.safeValue(5), 105);
        x.sync();
        due("safeValue(4)", x.safeValue(4), 0);
        due("safeValue(5)", x.safeValue(5), 55);
    }

    private static void unsafe() {
        promise = "promise 16";
        LogStore x = new LogStore();
        x.put(0, 0);
        due("unsafe(): value 0 is not no key", x.unsafe(), 1);
        x.put(15, 7);
        due("unsafe()", x.unsafe(), 0x8001);
        x.sync();
        due("unsafe() after sync", x.unsafe(), 0);
        x.remove(0);
        due("unsafe(): no key is not value 0", x.unsafe(), 1);
        x.put(0, 0);
        due("unsafe(): put back", x.unsafe(), 0);
        x.put(15, 8);
        due("unsafe(): another value", x.unsafe(), 0x8000);
        x.put(15, 7);
        due("unsafe(): the old value", x.unsafe(), 0);
        x.put(3, 3);
        x.remove(3);
        due("unsafe(): come and gone", x.unsafe(), 0);
        x.begin();
        x.put(4, 4);
        due("unsafe() counts an open transaction", x.unsafe(), 1 << 4);
        x.abort();
        due("unsafe() after abort", x.unsafe(), 0);
    }

    private static void pending() {
        promise = "promise 17";
        LogStore x = filled();
        due("pending() with none open", x.pending(), 0);
        x.begin();
        due("pending() at first", x.pending(), 0);
        x.put(1, 11);
        x.put(1, 11);
        due("pending() counts the same put twice", x.pending(), 2);
        x.remove(1);
        due("pending() counts a removal", x.pending(), 3);
        x.remove(1);
        x.put(16, 0);
        x.put(-1, 0);
        x.remove(16);
        due("pending() leaves out what answered false", x.pending(), 3);
        x.commit();
        due("pending() after commit", x.pending(), 0);
        x.put(1, 12);
        x.remove(1);
        due("pending() with none open", x.pending(), 0);
        x.begin();
        due("pending() of a second transaction", x.pending(), 0);
        x.put(2, 2);
        x.abort();
        due("pending() after abort", x.pending(), 0);
    }

    private static void objectsAreApart() {
        promise = "promise 1";
        LogStore x = filled();
        x.begin();
        LogStore y = new LogStore();
        due("count() of another object", y.count(), 0);
        due("begin() of another object", y.begin(), LogStore.OK);
        y.put(1, 99);
        due("get(1)", x.get(1), 10);
    }

    private static void fullUseOutsideTransaction() {
        promise = "512 calls";
        LogStore x = new LogStore();
        for (int i = 0; i < 511; i++) {
            due("put number " + i, x.put(i % 16, i), true);
        }
        due("get(14), the 512th call", x.get(14), 510);
        LogStore y = new LogStore();
        for (int i = 0; i < 511; i++) {
            y.put(i % 16, i);
        }
        due("put, the 512th call", y.put(0, 512), true);
    }

    private static void fullUseInsideTransaction() {
        promise = "512 calls";
        LogStore x = new LogStore();
        x.begin();
        for (int i = 0; i < 255; i++) {
            due("put number " + i, x.put(i % 16, i), true);
            due("remove number " + i, x.remove(i % 16), true);
        }
        due("pending(), the 512th call", x.pending(), 510);
    }

    private static void fullUseWithClean() {
        promise = "512 calls";
        LogStore x = new LogStore();
        for (int i = 0; i < 127; i++) {
            due("put", x.put(i % 16, i), true);
            x.sync();
            due("put", x.put((i + 1) % 16, -i), true);
            x.clean();
        }
        due("get(15)", x.get(15), -126);
        due("safeValue(14)", x.safeValue(14), 126);
        due("count()", x.count(), 16);
        due("safeKeys()", x.safeKeys(), 0xFFFF);
    }

    // The answers are free here; LANGUAGE.md, rule 7, still asks that no call throws.
    private static void useAfterTheLastCallStillEnds() {
        promise = "after 512 calls";
        LogStore x = new LogStore();
        for (int i = 0; i < 3000; i++) {
            if (i % 700 == 0) {
                x.begin();
            }
            x.put(i % 16, i);
            x.remove((i + 5) % 16);
            x.get(i % 16);
            x.next(i % 16);
            x.pending();
            if (i % 900 == 899) {
                x.sync();
                x.clean();
                x.abort();
            }
            x.unsafe();
        }
        x.commit();
        x.crash();
        x.count();
    }
}
