import java.util.ArrayList;
import java.util.List;
import java.util.function.Consumer;

/**
 * Each sentence of the document that names a boundary case, with a test of its own: main lists the
 * sentences in the document's order, each with the test that fails if it is broken.
 */
public final class BoundaryTest {
    private static final int KEYS = 16;
    private static final int LAST = 15;
    private static final int CALLS = 512;
    private static final int SHOWN = 10;
    private static final int MIN = Integer.MIN_VALUE;
    private static final int MAX = Integer.MAX_VALUE;

    /** Next to the keys, far from them, and such as a mask, a shift or a narrow type makes keys of. */
    private static final int[] NOT_KEYS = {
        -1, 16, -2, 17, -15, -16, -17, 19, 31, 32, 33, -32, 48, 255, 256, 259, -256, 65535, 65536, 65539,
        1 << 30, MAX, MAX - 1, MIN, MIN + 1, MIN + 3, MIN + 15};

    private static final int[] VALUES = {
        0, 1, -1, 2, 127, 128, 255, 256, -128, -129, 32767, 32768, 65535, 65536, -32769, MAX, MAX - 1, MIN, MIN + 1};

    /** A named row of calls on an object. */
    private record Calls(String name, Consumer<LogStore> on) {
        LogStore onNew() {
            LogStore x = new LogStore();
            on.accept(x);
            return x;
        }
    }

    private static final List<Calls> CLOSED = List.of(
        new Calls("new", x -> { }),
        new Calls("some keys", BoundaryTest::someKeys),
        new Calls("all keys", BoundaryTest::allKeys),
        new Calls("all keys taken out", BoundaryTest::allKeysTakenOut),
        new Calls("values 0", BoundaryTest::zeros),
        new Calls("after commit", x -> { someKeys(x); someChanges(x); x.commit(); }),
        new Calls("after abort", x -> { someKeys(x); someChanges(x); x.abort(); }),
        new Calls("after crash", x -> { someKeys(x); someChanges(x); x.crash(); }),
        new Calls("after clean", x -> { someKeys(x); x.clean(); }));

    private static final List<Calls> OPEN = List.of(
        new Calls("new, then begin", x -> x.begin()),
        new Calls("some keys, then begin", x -> { someKeys(x); x.begin(); }),
        new Calls("some changes open", x -> { someKeys(x); someChanges(x); }),
        new Calls("some changes open, then sync", x -> { someKeys(x); someChanges(x); x.sync(); }),
        new Calls("some changes open, then clean", x -> { someKeys(x); someChanges(x); x.clean(); }),
        new Calls("all keys put in a transaction", x -> { x.begin(); putAll(x, 200); }),
        new Calls("all keys taken out in a transaction", x -> { allKeys(x); x.begin(); removeAll(x); }),
        new Calls("all keys, some changes open", x -> { allKeys(x); someChanges(x); }));

    /** What may come later; a hidden change that no answer shows at once must show after one of these. */
    private static final List<Calls> LATER = List.of(
        new Calls("nothing", x -> { }),
        new Calls("commit", x -> x.commit()),
        new Calls("abort", x -> x.abort()),
        new Calls("sync", x -> x.sync()),
        new Calls("crash", x -> x.crash()),
        new Calls("clean", x -> x.clean()),
        new Calls("commit, sync", x -> { x.commit(); x.sync(); }),
        new Calls("sync, commit", x -> { x.sync(); x.commit(); }),
        new Calls("sync, abort", x -> { x.sync(); x.abort(); }),
        new Calls("sync, crash", x -> { x.sync(); x.crash(); }),
        new Calls("commit, crash", x -> { x.commit(); x.crash(); }),
        new Calls("crash, begin, put, abort", x -> { x.crash(); x.begin(); x.put(4, 44); x.abort(); }),
        new Calls("put, abort", x -> { x.put(4, 44); x.abort(); }),
        new Calls("put, sync, crash", x -> { x.put(4, 44); x.sync(); x.crash(); }),
        new Calls("begin, put, remove, abort", x -> { x.begin(); x.put(4, 44); x.remove(1); x.abort(); }));

    private static String sentence = "";
    private static int sentences = 0;
    private static int wrongHere = 0;
    private static int wrong = 0;

    public static void main(String[] args) {
        beforeThePromises();
        promises1To6();
        promises7To12();
        promises13To17();
        System.out.println(wrong == 0
            ? "all " + sentences + " sentences with a boundary case hold"
            : wrong + " answers are wrong");
        if (wrong != 0) {
            System.exit(1);
        }
    }

    private static void beforeThePromises() {
        check("What it is: used for at most 512 calls, no transaction", BoundaryTest::lastCallWithoutTransaction);
        check("What it is: used for at most 512 calls, all in a transaction", BoundaryTest::lastCallInTransaction);
        check("What it is: used for at most 512 calls, ended by sync or the like", BoundaryTest::lastCallsThatMoveStates);
        check("What it is: used for at most 512 calls, with clean", BoundaryTest::lastCallWithClean);
        check("What it is: what later calls answer is free (but none throws)", BoundaryTest::callsAfterTheLast);
        check("Terms: keys are 0 .. 15", BoundaryTest::keysAre0To15);
        check("Terms: values are ints", BoundaryTest::valuesAreInts);
        check("Terms: one open transaction at most", BoundaryTest::oneTransactionAtMost);
        check("Terms: at first no key is there in either state", BoundaryTest::atFirstNoKeyInEither);
        check("Terms: abort takes them all back", BoundaryTest::abortOfTheLongestTransaction);
    }

    private static void promises1To6() {
        check("1: no key is there", BoundaryTest::newObjectHasNoKey);
        check("1: no transaction is open", BoundaryTest::newObjectHasNoTransaction);
        check("2: opens a transaction and answers OK", BoundaryTest::beginWhenNoneIsOpen);
        check("2: BUSY when one is open", BoundaryTest::beginWhenOneIsOpen);
        check("2: BUSY, changing nothing", BoundaryTest::busyChangesNothing);
        check("3: answers true (first key, last key, full, the same again)", BoundaryTest::putAtTheEdges);
        check("3: without an open transaction the change is committed at once", BoundaryTest::putIsCommittedAtOnce);
        check("3: false when k is not 0 .. 15", BoundaryTest::putOfNoKey);
        check("3: false, changing nothing", BoundaryTest::putOfNoKeyChangesNothing);
        check("4: answers true (first key, last key, value 0, down to empty)", BoundaryTest::removeAtTheEdges);
        check("4: without an open transaction the change is committed at once", BoundaryTest::removeIsCommittedAtOnce);
        check("4: false when k is not there", BoundaryTest::removeOfWhatIsNotThere);
        check("4: false when k is not 0 .. 15", BoundaryTest::removeOfNoKey);
        check("4: false, changing nothing", BoundaryTest::refusedRemoveChangesNothing);
        check("5: commits the open transaction (an empty one too)", BoundaryTest::commitOfAnEmptyTransaction);
        check("5: NONE when none is open", BoundaryTest::commitWhenNoneIsOpen);
        check("6: takes everything back and ends it (an empty one too)", BoundaryTest::abortOfAnEmptyTransaction);
        check("6: takes everything back (many changes of one key)", BoundaryTest::abortOfManyChangesOfOneKey);
        check("6: NONE when none is open", BoundaryTest::abortWhenNoneIsOpen);
    }

    private static void promises7To12() {
        check("7: by all commits so far (none, all keys, back to none)", BoundaryTest::syncOfEmptyAndFull);
        check("7: without what an open transaction did", BoundaryTest::syncWhileOpen);
        check("8: changes no answer", BoundaryTest::cleanChangesNoAnswer);
        check("9: makes the safe state the current state (empty, full)", BoundaryTest::crashToEmptyAndFull);
        check("9: an open transaction is gone", BoundaryTest::crashWhileOpen);
        check("10: whether key k is there (first, last, value 0)", BoundaryTest::hasAtTheEdges);
        check("10: false when k is not 0 .. 15", BoundaryTest::hasOfNoKey);
        check("11: 0 when it is not there", BoundaryTest::getOfWhatIsNotThere);
        check("11: 0 when k is not 0 .. 15", BoundaryTest::getOfNoKey);
        check("12: the least key, from k on", BoundaryTest::nextFromEachKey);
        check("12: NONE when there is none", BoundaryTest::nextWhenThereIsNone);
        check("12: k may be any int, below 0", BoundaryTest::nextFromBelow);
        check("12: k may be any int, above 15", BoundaryTest::nextFromAbove);
    }

    private static void promises13To17() {
        check("13: the number of keys (none, all sixteen)", BoundaryTest::countOfNoneAndAll);
        check("13: keys, not puts", BoundaryTest::countOfOneKeyPutOften);
        check("14: bit k for key k (bit 0, bit 15, none, all)", BoundaryTest::safeKeysAtTheEdges);
        check("15: 0 when it is not there", BoundaryTest::safeValueOfWhatIsNotThere);
        check("15: 0 when k is not 0 .. 15", BoundaryTest::safeValueOfNoKey);
        check("16: whose presence differs (value 0 or no key)", BoundaryTest::unsafeByPresence);
        check("16: whose value differs (and not how often it changed)", BoundaryTest::unsafeByValue);
        check("16: bit k for key k (bit 0, bit 15, none, all)", BoundaryTest::unsafeAtTheEdges);
        check("17: of those that answered true", BoundaryTest::pendingLeavesOutRefusedCalls);
        check("17: the number of puts and removals (of one key)", BoundaryTest::pendingCountsEachCall);
        check("17: of the open transaction (not of the one before)", BoundaryTest::pendingOfTheSecondTransaction);
        check("17: 0 when none is open", BoundaryTest::pendingWhenNoneIsOpen);
    }

    private static void check(String words, Runnable test) {
        sentence = words;
        sentences++;
        wrongHere = 0;
        try {
            test.run();
        } catch (RuntimeException thrown) {
            tell("a call threw " + thrown);
        }
        wrong += wrongHere;
        if (wrongHere > SHOWN) {
            System.out.println("[" + sentence + "] .. " + (wrongHere - SHOWN) + " more ..");
        }
    }

    /** Shows only the first few of a sentence, since the twins ask the same in many ways. */
    private static void tell(String what) {
        wrongHere++;
        if (wrongHere <= SHOWN) {
            System.out.println("[" + sentence + "] " + what);
        }
    }

    private static void due(String call, long got, long want) {
        if (got != want) {
            tell(call + " answered " + got + ", due is " + want);
        }
    }

    private static void due(String call, boolean got, boolean want) {
        due(call, got ? 1L : 0L, want ? 1L : 0L);
    }

    // ---- objects to start from

    private static void putAll(LogStore x, int firstValue) {
        for (int k = 0; k < KEYS; k++) {
            x.put(k, firstValue + k);
        }
    }

    private static void removeAll(LogStore x) {
        for (int k = 0; k < KEYS; k++) {
            x.remove(k);
        }
    }

    /** Safe: 0 -> 5, 1 -> 10, 2 -> 20, 15 -> 7. Committed since: 2 -> 21, 3 -> 30, and 1 is taken out. */
    private static void someKeys(LogStore x) {
        x.put(0, 5);
        x.put(1, 9);
        x.put(1, 10);
        x.put(2, 20);
        x.put(15, 7);
        x.sync();
        x.put(2, 21);
        x.put(3, 30);
        x.remove(1);
    }

    /** Opens a transaction that puts anew, puts, takes out, and puts what comes to nothing. */
    private static void someChanges(LogStore x) {
        x.begin();
        x.put(2, 22);
        x.put(2, 23);
        x.remove(0);
        x.remove(3);
        x.put(3, 31);
        x.put(6, 60);
        x.remove(6);
        x.put(14, 0);
    }

    private static void allKeys(LogStore x) {
        putAll(x, 100);
        x.sync();
        x.put(0, 1);
        x.put(15, 2);
    }

    private static void allKeysTakenOut(LogStore x) {
        allKeys(x);
        removeAll(x);
    }

    private static void zeros(LogStore x) {
        x.put(0, 0);
        x.put(7, 0);
        x.sync();
        x.put(15, 0);
        x.remove(7);
    }

    // ---- that a call changes nothing

    /** The call on one object, nothing on its twin: after whatever comes later they answer alike. */
    private static void changesNothing(List<Calls> starts, String call, Consumer<LogStore> on) {
        for (Calls start : starts) {
            for (Calls later : LATER) {
                LogStore x = start.onNew();
                LogStore twin = start.onNew();
                on.accept(x);
                later.on().accept(x);
                later.on().accept(twin);
                answerAlike(start.name() + ", " + call + ", later " + later.name() + ": ", x, twin);
            }
        }
    }

    private static void answerAlike(String told, LogStore x, LogStore twin) {
        for (int k = 0; k < KEYS; k++) {
            due(told + "has(" + k + ")", x.has(k), twin.has(k));
            due(told + "get(" + k + ")", x.get(k), twin.get(k));
            due(told + "next(" + k + ")", x.next(k), twin.next(k));
            due(told + "safeValue(" + k + ")", x.safeValue(k), twin.safeValue(k));
        }
        due(told + "count()", x.count(), twin.count());
        due(told + "safeKeys()", x.safeKeys(), twin.safeKeys());
        due(told + "unsafe()", x.unsafe(), twin.unsafe());
        due(told + "pending()", x.pending(), twin.pending());
        due(told + "begin()", x.begin(), twin.begin());
    }

    // ---- What it is

    private static LogStore afterPuts(int puts) {
        LogStore x = new LogStore();
        for (int i = 0; i < puts; i++) {
            due("put as call " + (i + 1), x.put(i % KEYS, i), true);
        }
        return x;
    }

    private static LogStore afterBeginAndPuts(int puts) {
        LogStore x = new LogStore();
        x.begin();
        for (int i = 0; i < puts; i++) {
            due("put as call " + (i + 2), x.put(i % KEYS, i), true);
        }
        return x;
    }

    private static void lastCallWithoutTransaction() {
        int before = CALLS - 1;
        due("put(15, 9) as call 512", afterPuts(before).put(15, 9), true);
        due("put(16, 9) as call 512", afterPuts(before).put(16, 9), false);
        due("remove(0) as call 512", afterPuts(before).remove(0), true);
        due("remove(-1) as call 512", afterPuts(before).remove(-1), false);
        due("begin() as call 512", afterPuts(before).begin(), LogStore.OK);
        due("commit() as call 512", afterPuts(before).commit(), LogStore.NONE);
        due("abort() as call 512", afterPuts(before).abort(), LogStore.NONE);
        due("has(15) as call 512", afterPuts(before).has(15), true);
        due("get(14) as call 512", afterPuts(before).get(14), 510);
        due("get(15) as call 512", afterPuts(before).get(15), 495);
        due("next(0) as call 512", afterPuts(before).next(0), 0);
        due("count() as call 512", afterPuts(before).count(), 16);
        due("safeKeys() as call 512", afterPuts(before).safeKeys(), 0);
        due("safeValue(14) as call 512", afterPuts(before).safeValue(14), 0);
        due("unsafe() as call 512", afterPuts(before).unsafe(), 0xFFFF);
        due("pending() as call 512", afterPuts(before).pending(), 0);
        LogStore x = afterPuts(CALLS - 2);
        due("put(15, 9) as call 511", x.put(15, 9), true);
        due("get(15) as call 512", x.get(15), 9);
        LogStore y = afterPuts(CALLS - 2);
        due("remove(13) as call 511", y.remove(13), true);
        due("has(13) as call 512", y.has(13), false);
    }

    private static void lastCallInTransaction() {
        int before = CALLS - 2;
        due("pending() as call 512", afterBeginAndPuts(before).pending(), 510);
        due("begin() as call 512", afterBeginAndPuts(before).begin(), LogStore.BUSY);
        due("commit() as call 512", afterBeginAndPuts(before).commit(), LogStore.OK);
        due("abort() as call 512", afterBeginAndPuts(before).abort(), LogStore.OK);
        due("put(0, 9) as call 512", afterBeginAndPuts(before).put(0, 9), true);
        due("remove(0) as call 512", afterBeginAndPuts(before).remove(0), true);
        due("get(13) as call 512", afterBeginAndPuts(before).get(13), 509);
        LogStore x = new LogStore();
        x.begin();
        for (int i = 0; i < 255; i++) {
            due("put in a transaction", x.put(LAST, i), true);
            due("remove in a transaction", x.remove(LAST), true);
        }
        due("pending() as call 512", x.pending(), 510);
    }

    private static void lastCallsThatMoveStates() {
        LogStore aborted = afterBeginAndPuts(CALLS - 3);
        aborted.abort();
        due("count() as call 512, after abort", aborted.count(), 0);
        LogStore committed = afterBeginAndPuts(CALLS - 4);
        committed.commit();
        committed.sync();
        due("safeValue(11) as call 512, after commit and sync", committed.safeValue(11), 507);
        LogStore synced = afterPuts(CALLS - 2);
        synced.sync();
        due("safeValue(13) as call 512, after sync", synced.safeValue(13), 509);
        LogStore crashed = afterPuts(CALLS - 2);
        crashed.crash();
        due("count() as call 512, after crash", crashed.count(), 0);
        LogStore both = afterPuts(CALLS - 4);
        both.sync();
        both.remove(11);
        both.crash();
        due("get(11) as call 512, after crash", both.get(11), 507);
    }

    private static void lastCallWithClean() {
        LogStore once = afterPuts(CALLS - 2);
        once.clean();
        due("get(13) as call 512, after clean", once.get(13), 509);
        LogStore open = afterBeginAndPuts(CALLS - 3);
        open.clean();
        due("pending() as call 512, after clean", open.pending(), 509);
        LogStore synced = afterPuts(CALLS - 3);
        synced.sync();
        synced.clean();
        due("safeValue(12) as call 512, after sync and clean", synced.safeValue(12), 508);
        LogStore aborted = afterBeginAndPuts(CALLS - 4);
        aborted.clean();
        aborted.abort();
        due("count() as call 512, after clean and abort", aborted.count(), 0);
        LogStore often = new LogStore();
        for (int i = 0; i < 170; i++) {
            due("put between cleans", often.put(i % KEYS, i), true);
            often.sync();
            often.clean();
        }
        due("safeKeys() as call 511", often.safeKeys(), 0xFFFF);
        due("safeValue(9) as call 512", often.safeValue(9), 169);
    }

    // The answers are free here; LANGUAGE.md, rule 7, still asks that no call throws or fails to end.
    private static void callsAfterTheLast() {
        List<LogStore> used = new ArrayList<>();
        used.add(afterPuts(CALLS));
        used.add(afterBeginAndPuts(CALLS - 1));
        LogStore cleaned = afterPuts(CALLS);
        cleaned.clean();
        used.add(cleaned);
        for (LogStore x : used) {
            for (int i = 0; i < 2 * CALLS; i++) {
                x.put(i % 18 - 1, i);
                x.remove((i + 7) % 18 - 1);
            }
            for (Calls later : LATER) {
                later.on().accept(x);
                askAll(x);
            }
        }
    }

    private static void askAll(LogStore x) {
        for (int k = -1; k <= KEYS; k++) {
            x.has(k);
            x.get(k);
            x.next(k);
            x.safeValue(k);
        }
        x.count();
        x.safeKeys();
        x.unsafe();
        x.pending();
        x.begin();
    }

    // ---- Terms

    private static void keysAre0To15() {
        LogStore x = new LogStore();
        for (int k = 0; k < KEYS; k++) {
            due("put(" + k + ", " + -k + ")", x.put(k, -k), true);
        }
        due("put(-1, 1)", x.put(-1, 1), false);
        due("put(16, 1)", x.put(16, 1), false);
        due("count()", x.count(), 16);
        for (int k = 0; k < KEYS; k++) {
            due("get(" + k + ")", x.get(k), -k);
            due("remove(" + k + ")", x.remove(k), true);
            due("has(" + k + ")", x.has(k), false);
            due("count()", x.count(), LAST - k);
        }
    }

    private static void valuesAreInts() {
        for (int v : VALUES) {
            LogStore x = new LogStore();
            due("put(0, " + v + ")", x.put(0, v), true);
            due("put(15, " + v + ")", x.put(15, v), true);
            due("get(0)", x.get(0), v);
            x.sync();
            due("safeValue(15)", x.safeValue(15), v);
            x.begin();
            x.put(0, ~v);
            due("get(0) put anew", x.get(0), ~v);
            due("unsafe() of " + v + " and " + ~v, x.unsafe(), 1);
            x.clean();
            x.abort();
            due("get(0) after abort", x.get(0), v);
            x.remove(15);
            x.crash();
            due("get(15) after crash", x.get(15), v);
        }
    }

    private static void oneTransactionAtMost() {
        LogStore x = new LogStore();
        due("begin()", x.begin(), LogStore.OK);
        due("begin()", x.begin(), LogStore.BUSY);
        due("begin()", x.begin(), LogStore.BUSY);
        due("commit()", x.commit(), LogStore.OK);
        due("commit(): there was only one", x.commit(), LogStore.NONE);
        due("begin()", x.begin(), LogStore.OK);
        due("begin()", x.begin(), LogStore.BUSY);
        due("abort()", x.abort(), LogStore.OK);
        due("abort(): there was only one", x.abort(), LogStore.NONE);
    }

    private static void atFirstNoKeyInEither() {
        for (int k = 0; k < KEYS; k++) {
            due("has(" + k + ")", new LogStore().has(k), false);
            due("safeValue(" + k + ")", new LogStore().safeValue(k), 0);
        }
        due("safeKeys()", new LogStore().safeKeys(), 0);
        LogStore x = new LogStore();
        putAll(x, 1);
        due("safeKeys() before any sync", x.safeKeys(), 0);
        x.crash();
        due("count() after a crash before any sync", x.count(), 0);
    }

    private static void abortOfTheLongestTransaction() {
        LogStore x = new LogStore();
        putAll(x, 100);
        x.begin();
        for (int i = 0; i < 400; i++) {
            x.put(i % KEYS, i);
        }
        removeAll(x);
        due("pending()", x.pending(), 416);
        due("count()", x.count(), 0);
        due("abort()", x.abort(), LogStore.OK);
        for (int k = 0; k < KEYS; k++) {
            due("get(" + k + ")", x.get(k), 100 + k);
        }
    }

    // ---- Promise 1

    private static void newObjectHasNoKey() {
        for (int k = 0; k < KEYS; k++) {
            due("has(" + k + ")", new LogStore().has(k), false);
            due("get(" + k + ")", new LogStore().get(k), 0);
            due("next(" + k + ")", new LogStore().next(k), LogStore.NONE);
            due("remove(" + k + ")", new LogStore().remove(k), false);
        }
        due("count()", new LogStore().count(), 0);
        due("unsafe()", new LogStore().unsafe(), 0);
        LogStore used = new LogStore();
        putAll(used, 1);
        used.sync();
        due("count() of an object made after another was used", new LogStore().count(), 0);
        due("safeKeys() of an object made after another was used", new LogStore().safeKeys(), 0);
    }

    private static void newObjectHasNoTransaction() {
        due("commit()", new LogStore().commit(), LogStore.NONE);
        due("abort()", new LogStore().abort(), LogStore.NONE);
        due("pending()", new LogStore().pending(), 0);
        due("begin()", new LogStore().begin(), LogStore.OK);
        LogStore used = new LogStore();
        used.begin();
        due("begin() of an object made after another's begin", new LogStore().begin(), LogStore.OK);
    }

    // ---- Promise 2

    private static void beginWhenNoneIsOpen() {
        for (Calls start : CLOSED) {
            LogStore x = start.onNew();
            int before = x.count();
            due(start.name() + ": begin()", x.begin(), LogStore.OK);
            due(start.name() + ": count() after begin", x.count(), before);
            due(start.name() + ": pending() after begin", x.pending(), 0);
            x.put(5, 50);
            due(start.name() + ": pending() of the open transaction", x.pending(), 1);
            due(start.name() + ": commit()", x.commit(), LogStore.OK);
            due(start.name() + ": begin() again", x.begin(), LogStore.OK);
        }
    }

    private static void beginWhenOneIsOpen() {
        for (Calls start : OPEN) {
            LogStore x = start.onNew();
            due(start.name() + ": begin()", x.begin(), LogStore.BUSY);
            due(start.name() + ": begin() again", x.begin(), LogStore.BUSY);
        }
    }

    private static void busyChangesNothing() {
        changesNothing(OPEN, "begin()", x -> x.begin());
        LogStore x = new LogStore();
        x.put(1, 10);
        x.begin();
        x.put(1, 11);
        x.begin();
        x.put(2, 20);
        due("pending()", x.pending(), 2);
        due("abort()", x.abort(), LogStore.OK);
        due("get(1): the transaction reaches back before the refused begin", x.get(1), 10);
        due("has(2)", x.has(2), false);
    }

    // ---- Promise 3

    private static void putAtTheEdges() {
        LogStore x = new LogStore();
        due("put(0, 1) when empty", x.put(0, 1), true);
        due("put(15, 2)", x.put(15, 2), true);
        due("count()", x.count(), 2);
        due("get(0)", x.get(0), 1);
        due("get(15)", x.get(15), 2);
        putAll(x, 50);
        due("put(0, 3) when full", x.put(0, 3), true);
        due("put(15, 4) when full", x.put(15, 4), true);
        due("put(15, 4) the same again", x.put(15, 4), true);
        due("count() when full", x.count(), 16);
        due("get(0) put anew", x.get(0), 3);
        due("get(15) put anew", x.get(15), 4);
        due("get(14) as it was", x.get(14), 64);
    }

    private static void putIsCommittedAtOnce() {
        for (Calls start : CLOSED) {
            LogStore x = start.onNew();
            x.put(0, 71);
            x.begin();
            x.put(0, 72);
            x.abort();
            due(start.name() + ": get(0), not taken back", x.get(0), 71);
            x.put(0, 73);
            due(start.name() + ": abort()", x.abort(), LogStore.NONE);
            due(start.name() + ": get(0), not taken back", x.get(0), 73);
            x.sync();
            due(start.name() + ": safeValue(0), committed", x.safeValue(0), 73);
        }
        LogStore open = new LogStore();
        open.begin();
        open.put(0, 74);
        open.sync();
        due("safeKeys(): in a transaction it is not committed at once", open.safeKeys(), 0);
        open.abort();
        due("has(0): in a transaction it is taken back", open.has(0), false);
    }

    private static void putOfNoKey() {
        for (int k : NOT_KEYS) {
            due("put(" + k + ", 9) on a new object", new LogStore().put(k, 9), false);
            for (Calls start : CLOSED) {
                due(start.name() + ": put(" + k + ", 9)", start.onNew().put(k, 9), false);
            }
            for (Calls start : OPEN) {
                due(start.name() + ": put(" + k + ", 9)", start.onNew().put(k, 9), false);
            }
        }
    }

    private static void putOfNoKeyChangesNothing() {
        for (int k : NOT_KEYS) {
            changesNothing(CLOSED, "put(" + k + ", 9)", x -> x.put(k, 9));
            changesNothing(OPEN, "put(" + k + ", 9)", x -> x.put(k, 9));
        }
    }

    // ---- Promise 4

    private static void removeAtTheEdges() {
        LogStore x = new LogStore();
        putAll(x, 0);
        due("remove(0) of value 0, when full", x.remove(0), true);
        due("has(0)", x.has(0), false);
        due("remove(15)", x.remove(15), true);
        due("has(15)", x.has(15), false);
        due("get(15)", x.get(15), 0);
        for (int k = 1; k < LAST; k++) {
            due("remove(" + k + ")", x.remove(k), true);
        }
        due("count() down to empty", x.count(), 0);
        due("put(0, 1) after it was taken out", x.put(0, 1), true);
        due("get(0)", x.get(0), 1);
        due("remove(0), there again", x.remove(0), true);
    }

    private static void removeIsCommittedAtOnce() {
        for (Calls start : CLOSED) {
            LogStore x = start.onNew();
            x.put(0, 71);
            x.put(1, 81);
            x.remove(0);
            x.begin();
            x.put(0, 72);
            x.abort();
            due(start.name() + ": has(0), not brought back", x.has(0), false);
            x.remove(1);
            due(start.name() + ": abort()", x.abort(), LogStore.NONE);
            due(start.name() + ": has(1), not brought back", x.has(1), false);
            x.sync();
            due(start.name() + ": safeKeys(), committed", x.safeKeys() & 0b11, 0);
        }
        LogStore open = new LogStore();
        open.put(0, 1);
        open.begin();
        open.remove(0);
        open.sync();
        due("safeKeys(): in a transaction it is not committed at once", open.safeKeys(), 1);
        open.abort();
        due("has(0): in a transaction it is brought back", open.has(0), true);
    }

    private static void removeOfWhatIsNotThere() {
        LogStore x = new LogStore();
        due("remove(0) on a new object", x.remove(0), false);
        x.put(0, 1);
        x.put(15, 2);
        due("remove(1) beside key 0", x.remove(1), false);
        due("remove(14) beside key 15", x.remove(14), false);
        x.sync();
        x.remove(0);
        due("remove(0) again, though the safe state has it", x.remove(0), false);
        x.begin();
        x.remove(15);
        due("remove(15) again in the transaction", x.remove(15), false);
        x.put(3, 3);
        x.abort();
        due("remove(3) of what abort took back", x.remove(3), false);
        x.put(4, 4);
        x.crash();
        due("remove(4) of what a crash took", x.remove(4), false);
        due("remove(0) of what a crash brought back", x.remove(0), true);
    }

    private static void removeOfNoKey() {
        for (int k : NOT_KEYS) {
            due("remove(" + k + ") on a new object", new LogStore().remove(k), false);
            for (Calls start : CLOSED) {
                due(start.name() + ": remove(" + k + ")", start.onNew().remove(k), false);
            }
            for (Calls start : OPEN) {
                due(start.name() + ": remove(" + k + ")", start.onNew().remove(k), false);
            }
        }
    }

    private static void refusedRemoveChangesNothing() {
        for (int k : NOT_KEYS) {
            changesNothing(CLOSED, "remove(" + k + ")", x -> x.remove(k));
            changesNothing(OPEN, "remove(" + k + ")", x -> x.remove(k));
        }
        for (int k = 0; k < KEYS; k++) {
            int key = k;
            changesNothing(without(CLOSED, key), "remove(" + key + ")", x -> x.remove(key));
            changesNothing(without(OPEN, key), "remove(" + key + ")", x -> x.remove(key));
        }
    }

    private static List<Calls> without(List<Calls> starts, int k) {
        List<Calls> found = new ArrayList<>();
        for (Calls start : starts) {
            if (!start.onNew().has(k)) {
                found.add(start);
            }
        }
        return found;
    }

    // ---- Promises 5 and 6

    private static void commitOfAnEmptyTransaction() {
        changesNothing(CLOSED, "begin(), commit()", x -> {
            due("begin()", x.begin(), LogStore.OK);
            due("commit() of nothing", x.commit(), LogStore.OK);
        });
    }

    private static void commitWhenNoneIsOpen() {
        changesNothing(CLOSED, "commit()", x -> due("commit()", x.commit(), LogStore.NONE));
        for (Calls start : OPEN) {
            LogStore x = start.onNew();
            due(start.name() + ": commit()", x.commit(), LogStore.OK);
            due(start.name() + ": commit() again", x.commit(), LogStore.NONE);
            x.put(0, 1);
            due(start.name() + ": commit() of a put by itself", x.commit(), LogStore.NONE);
        }
    }

    private static void abortOfAnEmptyTransaction() {
        changesNothing(CLOSED, "begin(), abort()", x -> {
            due("begin()", x.begin(), LogStore.OK);
            due("abort() of nothing", x.abort(), LogStore.OK);
        });
    }

    private static void abortOfManyChangesOfOneKey() {
        changesNothing(CLOSED, "begin(), many changes of each key, abort()", x -> {
            x.begin();
            for (int k = 0; k < KEYS; k++) {
                x.remove(k);
                x.put(k, 1);
                x.put(k, 2);
                x.remove(k);
                x.put(k, 0);
            }
            x.abort();
        });
    }

    private static void abortWhenNoneIsOpen() {
        changesNothing(CLOSED, "abort()", x -> due("abort()", x.abort(), LogStore.NONE));
        for (Calls start : OPEN) {
            LogStore x = start.onNew();
            due(start.name() + ": abort()", x.abort(), LogStore.OK);
            due(start.name() + ": abort() again", x.abort(), LogStore.NONE);
            x.put(0, 1);
            due(start.name() + ": abort() of a put by itself", x.abort(), LogStore.NONE);
            due(start.name() + ": get(0) after it", x.get(0), 1);
        }
    }

    // ---- Promise 7

    private static void syncOfEmptyAndFull() {
        LogStore x = new LogStore();
        x.sync();
        due("safeKeys() after sync of nothing", x.safeKeys(), 0);
        putAll(x, 100);
        x.sync();
        due("safeKeys() after sync of all", x.safeKeys(), 0xFFFF);
        for (int k = 0; k < KEYS; k++) {
            due("safeValue(" + k + ")", x.safeValue(k), 100 + k);
        }
        due("unsafe()", x.unsafe(), 0);
        removeAll(x);
        x.sync();
        due("safeKeys() after all were taken out", x.safeKeys(), 0);
        due("safeValue(15)", x.safeValue(15), 0);
        changesNothing(List.of(new Calls("synced", y -> { someKeys(y); y.sync(); })), "sync() again", y -> y.sync());
    }

    private static void syncWhileOpen() {
        LogStore x = new LogStore();
        someKeys(x);
        someChanges(x);
        x.sync();
        due("safeKeys()", x.safeKeys(), 0b1000_0000_0000_1101);
        due("safeValue(0), taken out in the transaction", x.safeValue(0), 5);
        due("safeValue(2), put anew in the transaction", x.safeValue(2), 21);
        due("safeValue(3), taken out and put in the transaction", x.safeValue(3), 30);
        due("safeValue(14), put in the transaction", x.safeValue(14), 0);
        due("get(2): the transaction goes on", x.get(2), 23);
        due("pending(): the transaction goes on", x.pending(), 8);
        due("unsafe()", x.unsafe(), 0b0100_0000_0000_1101);
        due("commit(): the transaction goes on", x.commit(), LogStore.OK);
        due("safeValue(2): commit is not sync", x.safeValue(2), 21);
        x.crash();
        due("get(2) after crash: the sync is before the commit", x.get(2), 21);
        LogStore y = new LogStore();
        y.begin();
        y.put(0, 1);
        y.sync();
        due("safeKeys() with nothing ever committed", y.safeKeys(), 0);
        y.crash();
        due("has(0)", y.has(0), false);
    }

    // ---- Promise 8

    private static void cleanChangesNoAnswer() {
        changesNothing(CLOSED, "clean()", x -> x.clean());
        changesNothing(OPEN, "clean()", x -> x.clean());
        changesNothing(CLOSED, "clean(), clean()", x -> { x.clean(); x.clean(); });
        changesNothing(OPEN, "clean(), clean()", x -> { x.clean(); x.clean(); });
    }

    // ---- Promise 9

    private static void crashToEmptyAndFull() {
        LogStore x = new LogStore();
        x.crash();
        due("count() of a new object", x.count(), 0);
        putAll(x, 1);
        x.crash();
        due("count(): nothing was safe", x.count(), 0);
        putAll(x, 100);
        x.sync();
        removeAll(x);
        x.crash();
        due("count(): all were safe", x.count(), 16);
        for (int k = 0; k < KEYS; k++) {
            due("get(" + k + ")", x.get(k), 100 + k);
        }
        due("safeKeys(): the safe state stays", x.safeKeys(), 0xFFFF);
        due("unsafe()", x.unsafe(), 0);
        x.remove(0);
        x.put(15, 1);
        x.crash();
        x.crash();
        due("get(0) after the second and third crash", x.get(0), 100);
        due("get(15) after the second and third crash", x.get(15), 115);
        x.begin();
        x.put(15, 2);
        x.abort();
        due("get(15) by an abort after the crash", x.get(15), 115);
        x.put(15, 3);
        x.crash();
        x.sync();
        due("safeValue(15): a sync doesn't bring back what a crash took", x.safeValue(15), 115);
    }

    private static void crashWhileOpen() {
        for (Calls start : OPEN) {
            LogStore x = start.onNew();
            int safeKeys = x.safeKeys();
            x.crash();
            due(start.name() + ": pending()", x.pending(), 0);
            due(start.name() + ": commit()", x.commit(), LogStore.NONE);
            due(start.name() + ": abort()", x.abort(), LogStore.NONE);
            due(start.name() + ": unsafe()", x.unsafe(), 0);
            due(start.name() + ": safeKeys()", x.safeKeys(), safeKeys);
            x.put(9, 90);
            due(start.name() + ": pending(), the put is by itself", x.pending(), 0);
            due(start.name() + ": begin()", x.begin(), LogStore.OK);
            x.abort();
            due(start.name() + ": get(9)", x.get(9), 90);
        }
    }

    // ---- Promises 10 and 11

    private static void hasAtTheEdges() {
        LogStore x = new LogStore();
        x.put(0, 0);
        x.put(15, 0);
        due("has(0) of value 0", x.has(0), true);
        due("has(15) of value 0", x.has(15), true);
        due("has(1)", x.has(1), false);
        due("has(14)", x.has(14), false);
        x.sync();
        x.remove(15);
        due("has(15), though the safe state has it", x.has(15), false);
        x.begin();
        x.remove(0);
        due("has(0), taken out in the transaction", x.has(0), false);
        x.put(8, 0);
        due("has(8), put in the transaction", x.has(8), true);
    }

    private static void hasOfNoKey() {
        LogStore x = new LogStore();
        allKeys(x);
        for (int k : NOT_KEYS) {
            due("has(" + k + ") when full", x.has(k), false);
            due("has(" + k + ") when new", new LogStore().has(k), false);
            x.put(k, 1);
            due("has(" + k + ") after a refused put", x.has(k), false);
        }
    }

    private static void getOfWhatIsNotThere() {
        LogStore x = new LogStore();
        due("get(0) when new", x.get(0), 0);
        x.put(0, 5);
        x.put(15, 6);
        x.sync();
        due("get(1) beside key 0", x.get(1), 0);
        due("get(14) beside key 15", x.get(14), 0);
        x.remove(0);
        due("get(0), taken out, though the safe state has it", x.get(0), 0);
        x.begin();
        x.remove(15);
        due("get(15), taken out in the transaction", x.get(15), 0);
        x.put(3, 33);
        x.abort();
        due("get(3), taken back", x.get(3), 0);
        x.put(4, 44);
        x.crash();
        due("get(4), gone by a crash", x.get(4), 0);
    }

    private static void getOfNoKey() {
        LogStore x = new LogStore();
        allKeys(x);
        for (int k : NOT_KEYS) {
            due("get(" + k + ") when full", x.get(k), 0);
            due("get(" + k + ") when new", new LogStore().get(k), 0);
            x.put(k, 1);
            due("get(" + k + ") after a refused put", x.get(k), 0);
        }
    }

    // ---- Promise 12

    private static void nextFromEachKey() {
        for (int there = 0; there < KEYS; there++) {
            LogStore x = new LogStore();
            x.put(there, 0);
            for (int k = 0; k < KEYS; k++) {
                due("next(" + k + ") with key " + there, x.next(k), k <= there ? there : LogStore.NONE);
            }
        }
        LogStore full = new LogStore();
        allKeys(full);
        for (int k = 0; k < KEYS; k++) {
            due("next(" + k + ") when full", full.next(k), k);
        }
    }

    private static void nextWhenThereIsNone() {
        for (int k = 0; k < KEYS; k++) {
            due("next(" + k + ") when new", new LogStore().next(k), LogStore.NONE);
        }
        LogStore x = new LogStore();
        allKeys(x);
        x.remove(15);
        due("next(15) with 0 .. 14: it doesn't begin again at 0", x.next(15), LogStore.NONE);
        removeAll(x);
        due("next(0), though the safe state has keys", x.next(0), LogStore.NONE);
        x.crash();
        due("next(0) after crash", x.next(0), 0);
    }

    private static void nextFromBelow() {
        int[] below = {-1, -2, -15, -16, -17, -32, -256, -65536, MIN, MIN + 1, MIN + 15};
        for (int k : below) {
            LogStore x = new LogStore();
            due("next(" + k + ") when new", x.next(k), LogStore.NONE);
            x.put(15, 0);
            due("next(" + k + ") with key 15", x.next(k), 15);
            x.put(3, 0);
            due("next(" + k + ") with keys 3 and 15", x.next(k), 3);
            x.put(0, 0);
            due("next(" + k + ") with keys 0, 3 and 15", x.next(k), 0);
        }
    }

    private static void nextFromAbove() {
        int[] above = {16, 17, 19, 31, 32, 48, 255, 256, 65535, 65536, 1 << 30, MAX - 15, MAX - 1, MAX};
        for (int k : above) {
            LogStore x = new LogStore();
            due("next(" + k + ") when new", x.next(k), LogStore.NONE);
            allKeys(x);
            due("next(" + k + ") when full", x.next(k), LogStore.NONE);
        }
    }

    // ---- Promise 13

    private static void countOfNoneAndAll() {
        LogStore x = new LogStore();
        due("count() when new", x.count(), 0);
        for (int k = LAST; k >= 0; k--) {
            x.put(k, 0);
            due("count() up to full", x.count(), KEYS - k);
        }
        x.sync();
        for (int k = 0; k < KEYS; k++) {
            x.remove(k);
            due("count() down to empty, though the safe state is full", x.count(), LAST - k);
        }
    }

    private static void countOfOneKeyPutOften() {
        LogStore x = new LogStore();
        for (int i = 0; i < 100; i++) {
            x.put(LAST, i);
        }
        due("count()", x.count(), 1);
        x.remove(LAST);
        due("count() after one removal", x.count(), 0);
        x.put(16, 1);
        x.remove(LAST);
        due("count() after refused calls", x.count(), 0);
    }

    // ---- Promises 14 and 15

    private static void safeKeysAtTheEdges() {
        due("safeKeys() when new", new LogStore().safeKeys(), 0);
        for (int k = 0; k < KEYS; k++) {
            LogStore x = new LogStore();
            x.put(k, 0);
            due("safeKeys() before sync", x.safeKeys(), 0);
            x.sync();
            due("safeKeys() of key " + k + " alone", x.safeKeys(), 1 << k);
            x.remove(k);
            due("safeKeys() before the second sync", x.safeKeys(), 1 << k);
        }
        LogStore full = new LogStore();
        putAll(full, 0);
        full.sync();
        due("safeKeys() when full", full.safeKeys(), 65535);
    }

    private static void safeValueOfWhatIsNotThere() {
        LogStore x = new LogStore();
        due("safeValue(0) when new", x.safeValue(0), 0);
        x.put(0, 5);
        x.put(15, 6);
        due("safeValue(0), though the current state has it", x.safeValue(0), 0);
        x.sync();
        due("safeValue(0)", x.safeValue(0), 5);
        due("safeValue(1) beside key 0", x.safeValue(1), 0);
        due("safeValue(14) beside key 15", x.safeValue(14), 0);
        x.remove(15);
        due("safeValue(15), still there in the safe state", x.safeValue(15), 6);
        x.sync();
        due("safeValue(15), taken out", x.safeValue(15), 0);
        x.begin();
        x.put(3, 33);
        x.sync();
        due("safeValue(3), in the open transaction alone", x.safeValue(3), 0);
    }

    private static void safeValueOfNoKey() {
        LogStore x = new LogStore();
        allKeys(x);
        x.sync();
        for (int k : NOT_KEYS) {
            due("safeValue(" + k + ") when full", x.safeValue(k), 0);
            due("safeValue(" + k + ") when new", new LogStore().safeValue(k), 0);
            x.put(k, 1);
            x.sync();
            due("safeValue(" + k + ") after a refused put", x.safeValue(k), 0);
        }
    }

    // ---- Promise 16

    private static void unsafeByPresence() {
        for (int k = 0; k < KEYS; k++) {
            LogStore x = new LogStore();
            x.put(k, 0);
            due("unsafe(): value 0, and no key in the safe state", x.unsafe(), 1 << k);
            x.sync();
            due("unsafe() after sync", x.unsafe(), 0);
            x.remove(k);
            due("unsafe(): no key, and value 0 in the safe state", x.unsafe(), 1 << k);
            x.put(k, 0);
            due("unsafe() put back", x.unsafe(), 0);
            x.remove(k);
            x.sync();
            x.put(k, 5);
            x.remove(k);
            due("unsafe() come and gone", x.unsafe(), 0);
        }
    }

    private static void unsafeByValue() {
        for (int v : VALUES) {
            LogStore x = new LogStore();
            x.put(9, v);
            x.sync();
            x.put(9, v);
            due("unsafe() of the same value", x.unsafe(), 0);
            x.put(9, v ^ MIN);
            due("unsafe() of another sign", x.unsafe(), 1 << 9);
            x.put(9, v ^ 65536);
            due("unsafe() of another high half", x.unsafe(), 1 << 9);
            x.put(9, v + 1);
            due("unsafe() of the value after it", x.unsafe(), 1 << 9);
            x.put(9, v);
            due("unsafe() back at the old value", x.unsafe(), 0);
            x.begin();
            x.put(9, ~v);
            due("unsafe() in the transaction", x.unsafe(), 1 << 9);
            x.abort();
            due("unsafe() after abort", x.unsafe(), 0);
        }
    }

    private static void unsafeAtTheEdges() {
        due("unsafe() when new", new LogStore().unsafe(), 0);
        LogStore x = new LogStore();
        putAll(x, 0);
        due("unsafe() of all keys", x.unsafe(), 65535);
        x.sync();
        due("unsafe() after sync", x.unsafe(), 0);
        x.put(15, 1);
        due("unsafe() of key 15", x.unsafe(), 1 << 15);
        x.remove(0);
        due("unsafe() of keys 0 and 15", x.unsafe(), 1 << 15 | 1);
        removeAll(x);
        due("unsafe() of all keys taken out", x.unsafe(), 65535);
        x.crash();
        due("unsafe() after crash", x.unsafe(), 0);
    }

    // ---- Promise 17

    private static void pendingLeavesOutRefusedCalls() {
        LogStore x = new LogStore();
        x.begin();
        for (int k : NOT_KEYS) {
            x.put(k, 1);
            x.remove(k);
        }
        x.remove(0);
        due("pending() after refused calls alone", x.pending(), 0);
        x.put(0, 1);
        x.remove(0);
        x.remove(0);
        x.begin();
        due("pending() after two calls that were not refused", x.pending(), 2);
    }

    private static void pendingCountsEachCall() {
        LogStore x = new LogStore();
        x.put(0, 1);
        x.begin();
        due("pending() at first", x.pending(), 0);
        x.put(0, 1);
        due("pending() of a put that changes no value", x.pending(), 1);
        x.put(0, 1);
        due("pending() of the same put again", x.pending(), 2);
        x.put(5, 5);
        x.remove(5);
        due("pending() of a key come and gone", x.pending(), 4);
        x.sync();
        due("pending() after sync", x.pending(), 4);
        x.clean();
        due("pending() after clean", x.pending(), 4);
        x.remove(0);
        due("pending() of a removal", x.pending(), 5);
    }

    private static void pendingOfTheSecondTransaction() {
        LogStore x = new LogStore();
        x.begin();
        x.put(0, 1);
        x.put(1, 1);
        x.commit();
        x.put(2, 1);
        x.begin();
        due("pending() after begin, one committed before", x.pending(), 0);
        x.put(3, 1);
        due("pending()", x.pending(), 1);
        x.abort();
        x.begin();
        due("pending() after begin, one aborted before", x.pending(), 0);
        x.put(3, 1);
        x.crash();
        x.begin();
        due("pending() after begin, one crashed before", x.pending(), 0);
    }

    private static void pendingWhenNoneIsOpen() {
        for (Calls start : CLOSED) {
            LogStore x = start.onNew();
            due(start.name() + ": pending()", x.pending(), 0);
            x.put(0, 1);
            x.put(0, 2);
            x.remove(0);
            due(start.name() + ": pending() after changes by themselves", x.pending(), 0);
        }
        for (Calls start : OPEN) {
            LogStore committed = start.onNew();
            committed.commit();
            due(start.name() + ": pending() after commit", committed.pending(), 0);
            LogStore aborted = start.onNew();
            aborted.abort();
            due(start.name() + ": pending() after abort", aborted.pending(), 0);
            LogStore crashed = start.onNew();
            crashed.crash();
            due(start.name() + ": pending() after crash", crashed.pending(), 0);
        }
    }
}
