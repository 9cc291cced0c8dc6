import java.util.Objects;
import java.util.TreeMap;

/**
 * Runs the class beside a plain model (three maps) and compares every answer after every call:
 * all short runs of the changing calls on one key, and long runs over all keys drawn by a fixed row
 * of numbers, so that each run of the test is the same.
 */
public final class ModelTest {
    private static final int SHORT_CALLS = 9;
    private static final int SHORT_LENGTH = 6;
    private static final int LONG_RUNS = 4000;
    private static final int CALLS_OF_AN_OBJECT = 512;

    private static int wrong = 0;
    private static long drawn = 20240917L;

    /** The document's words, each state as a map of its own. */
    private static final class Model {
        TreeMap<Integer, Integer> current = new TreeMap<>();
        TreeMap<Integer, Integer> committed = new TreeMap<>();
        TreeMap<Integer, Integer> safe = new TreeMap<>();
        boolean open = false;
        int pending = 0;

        int begin() {
            if (open) return LogStore.BUSY;
            open = true;
            return LogStore.OK;
        }

        boolean put(int k, int v) {
            if (k < 0 || k > 15) return false;
            current.put(k, v);
            changed();
            return true;
        }

        boolean remove(int k) {
            if (!current.containsKey(k)) return false;
            current.remove(k);
            changed();
            return true;
        }

        void changed() {
            if (open) pending++;
            else committed = new TreeMap<>(current);
        }

        int commit() {
            if (!open) return LogStore.NONE;
            committed = new TreeMap<>(current);
            end();
            return LogStore.OK;
        }

        int abort() {
            if (!open) return LogStore.NONE;
            current = new TreeMap<>(committed);
            end();
            return LogStore.OK;
        }

        void sync() {
            safe = new TreeMap<>(committed);
        }

        void crash() {
            current = new TreeMap<>(safe);
            committed = new TreeMap<>(safe);
            end();
        }

        void end() {
            open = false;
            pending = 0;
        }

        int next(int k) {
            Integer key = current.ceilingKey(k);
            return key == null ? LogStore.NONE : key;
        }

        int safeKeys() {
            int bits = 0;
            for (int k : safe.keySet()) bits |= 1 << k;
            return bits;
        }

        int unsafe() {
            int bits = 0;
            for (int k = 0; k < 16; k++) {
                if (!Objects.equals(current.get(k), safe.get(k))) bits |= 1 << k;
            }
            return bits;
        }
    }

    public static void main(String[] args) {
        allShortRuns();
        for (int run = 0; run < LONG_RUNS && wrong == 0; run++) {
            longRun(run);
        }
        System.out.println(wrong == 0 ? "class and model agree" : "class and model differ");
        if (wrong != 0) {
            System.exit(1);
        }
    }

    private static void due(String where, long got, long want) {
        if (got != want) {
            wrong++;
            System.out.println(where + " answered " + got + ", due is " + want);
        }
    }

    private static long bit(boolean b) {
        return b ? 1L : 0L;
    }

    private static void allShortRuns() {
        int runs = 1;
        for (int i = 0; i < SHORT_LENGTH; i++) runs *= SHORT_CALLS;
        for (int run = 0; run < runs && wrong == 0; run++) {
            LogStore x = new LogStore();
            Model m = new Model();
            String told = "";
            int rest = run;
            for (int i = 0; i < SHORT_LENGTH && wrong == 0; i++) {
                told += shortCall(x, m, rest % SHORT_CALLS) + " ";
                rest /= SHORT_CALLS;
                compareKey(told, x, m, 0);
                compareKey(told, x, m, 1);
                compareWhole(told, x, m, 0);
            }
        }
    }

    private static String shortCall(LogStore x, Model m, int call) {
        switch (call) {
            case 0: return put("put(0, 0)", x, m, 0, 0);
            case 1: return put("put(0, 1)", x, m, 0, 1);
            case 2: return remove("remove(0)", x, m, 0);
            default: return other(x, m, call - 3);
        }
    }

    private static String put(String told, LogStore x, Model m, int k, int v) {
        due(told, bit(x.put(k, v)), bit(m.put(k, v)));
        return told;
    }

    private static String remove(String told, LogStore x, Model m, int k) {
        due(told, bit(x.remove(k)), bit(m.remove(k)));
        return told;
    }

    private static String other(LogStore x, Model m, int call) {
        switch (call) {
            case 0: due("begin()", x.begin(), m.begin()); return "begin()";
            case 1: due("commit()", x.commit(), m.commit()); return "commit()";
            case 2: due("abort()", x.abort(), m.abort()); return "abort()";
            case 3: x.sync(); m.sync(); return "sync()";
            case 4: x.clean(); return "clean()";
            default: x.crash(); m.crash(); return "crash()";
        }
    }

    private static int draw(int below) {
        drawn = drawn * 6364136223846793005L + 1442695040888963407L;
        return (int) ((drawn >>> 33) % below);
    }

    /** Looks at every answer only now and then, since looking uses up the object's calls. */
    private static void longRun(int run) {
        LogStore x = new LogStore();
        Model m = new Model();
        int keys = 1 + draw(18);
        int rare = 4 + draw(60);
        int calls = 0;
        int looks = 80;
        while (calls + looks < CALLS_OF_AN_OBJECT && wrong == 0) {
            String told = "long run " + run + ", call " + calls + ": " + longCall(x, m, keys, rare);
            calls++;
            if (draw(60) == 0 && calls + 2 * looks < CALLS_OF_AN_OBJECT) {
                calls += compareAll(told, x, m);
            }
        }
        compareAll("long run " + run + ", at its end", x, m);
    }

    private static String longCall(LogStore x, Model m, int keys, int rare) {
        int k = draw(keys) - 1;
        int kind = draw(rare);
        if (kind < 2) return other(x, m, draw(6));
        if (kind % 3 == 0) return remove("remove(" + k + ")", x, m, k);
        int v = draw(3) - 1;
        return put("put(" + k + ", " + v + ")", x, m, k, v);
    }

    private static int compareAll(String told, LogStore x, Model m) {
        for (int k = -1; k <= 16; k++) {
            compareKey(told, x, m, k);
        }
        compareWhole(told, x, m, draw(18) - 1);
        return 18 * 3 + 5;
    }

    private static void compareKey(String told, LogStore x, Model m, int k) {
        due(told + " has(" + k + ")", bit(x.has(k)), bit(m.current.containsKey(k)));
        due(told + " get(" + k + ")", x.get(k), m.current.getOrDefault(k, 0));
        due(told + " safeValue(" + k + ")", x.safeValue(k), m.safe.getOrDefault(k, 0));
    }

    private static void compareWhole(String told, LogStore x, Model m, int k) {
        due(told + " next(" + k + ")", x.next(k), m.next(k));
        due(told + " count()", x.count(), m.current.size());
        due(told + " safeKeys()", x.safeKeys(), m.safeKeys());
        due(told + " unsafe()", x.unsafe(), m.unsafe());
        due(told + " pending()", x.pending(), m.pending);
    }
}
