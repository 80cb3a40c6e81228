import java.util.ArrayList;
import java.util.List;
import java.util.TreeMap;

// Long runs of mixed calls, each answer held against a plain model: one map a version, none ever thrown away.
public final class ModelTest {
    private static final int RUNS = 4000;
    private static final int CALLS_PROMISED = 512;

    private static int wrong = 0;

    private final List<TreeMap<Integer, Integer>> versions = new ArrayList<>();
    private int oldest = 0;
    private final MvbTree tree = new MvbTree();
    private final int run;
    private long seed;
    private final int keySpread;

    private ModelTest(int run) {
        this.run = run;
        this.seed = run;
        // Few keys bring changes and erasures, many bring full stores.
        int[] spreads = {3, 12, 40, 2001};
        this.keySpread = spreads[run % spreads.length];
        versions.add(new TreeMap<>());
    }

    public static void main(String[] args) {
        for (int run = 1; run <= RUNS && wrong == 0; run++) {
            new ModelTest(run).runCalls();
        }
        System.out.println(wrong == 0 ? "all answers are as due" : wrong + " answers are not as due");
        if (wrong != 0) {
            System.exit(1);
        }
    }

    private void runCalls() {
        int changesInTen = 2 + run % 7;
        for (int call = 0; call < CALLS_PROMISED; call++) {
            if (pick(10) < changesInTen) {
                change();
            } else {
                ask();
            }
        }
    }

    private void change() {
        int kind = pick(12);
        if (kind < 7) {
            int key = anyKey();
            int value = anyValue();
            due("put(" + key + ", " + value + ")", tree.put(key, value), put(key, value));
        } else if (kind < 10) {
            int key = anyKey();
            due("erase(" + key + ")", tree.erase(key), erase(key));
        } else {
            int version = anyVersion();
            // Far forgets are kept seldom, so that histories grow to their bound.
            if (pick(2) == 0 && isKept(version)) {
                version = oldest + pick(Math.min(4, current() - oldest + 1));
            }
            due("forget(" + version + ")", tree.forget(version), forget(version));
        }
    }

    private void ask() {
        int version = anyVersion();
        int other = anyVersion();
        int key = anyKey();
        int hi = anyKey();
        switch (pick(10)) {
            case 0 -> due("current()", tree.current(), current());
            case 1 -> due("oldest()", tree.oldest(), oldest);
            case 2 -> due("has(" + key + ", " + version + ")", tree.has(key, version) ? 1 : 0,
                    at(version).containsKey(key) ? 1 : 0);
            case 3 -> due("get(" + key + ", " + version + ")", tree.get(key, version),
                    at(version).getOrDefault(key, 0));
            case 4 -> due("count(" + key + ", " + hi + ", " + version + ")", tree.count(key, hi, version),
                    isKept(version) ? range(key, hi, version).size() : MvbTree.BAD_VERSION);
            case 5 -> due("sum(" + key + ", " + hi + ", " + version + ")", tree.sum(key, hi, version),
                    range(key, hi, version).values().stream().mapToInt(v -> v).sum());
            case 6 -> due("next(" + key + ", " + version + ")", tree.next(key, version),
                    orNone(at(version).higherKey(key)));
            case 7 -> {
                int i = pick(32) - 2;
                due("keyAt(" + i + ", " + version + ")", tree.keyAt(i, version),
                        orNone(at(version).keySet().stream().skip(Math.max(i, 0)).findFirst()
                                .filter(k -> i >= 0).orElse(null)));
            }
            case 8 -> due("differ(" + key + ", " + hi + ", " + version + ", " + other + ")",
                    tree.differ(key, hi, version, other), differ(key, hi, version, other));
            default -> due("since(" + key + ")", tree.since(key), since(key));
        }
    }

    private int put(int key, int value) {
        if (key < -1000 || key > 1000) {
            return MvbTree.BAD_KEY;
        }
        if (current() - oldest == 40) {
            return MvbTree.HISTORY_FULL;
        }
        TreeMap<Integer, Integer> made = new TreeMap<>(versions.get(current()));
        if (!made.containsKey(key) && made.size() == 28) {
            return MvbTree.FULL;
        }
        made.put(key, value);
        versions.add(made);
        return current();
    }

    private int erase(int key) {
        if (key < -1000 || key > 1000) {
            return MvbTree.BAD_KEY;
        }
        TreeMap<Integer, Integer> made = new TreeMap<>(versions.get(current()));
        if (!made.containsKey(key)) {
            return MvbTree.NO_KEY;
        }
        if (current() - oldest == 40) {
            return MvbTree.HISTORY_FULL;
        }
        made.remove(key);
        versions.add(made);
        return current();
    }

    private int forget(int version) {
        if (!isKept(version)) {
            return MvbTree.BAD_VERSION;
        }
        oldest = version;
        return current() - oldest;
    }

    private int differ(int lo, int hi, int versionA, int versionB) {
        if (!isKept(versionA) || !isKept(versionB)) {
            return MvbTree.BAD_VERSION;
        }
        int differing = 0;
        for (int key = -1000; key <= 1000; key++) {
            Integer a = versions.get(versionA).get(key);
            Integer b = versions.get(versionB).get(key);
            boolean same = a == null ? b == null : a.equals(b);
            if (key >= lo && key <= hi && !same) {
                differing++;
            }
        }
        return differing;
    }

    private int since(int key) {
        Integer value = versions.get(current()).get(key);
        if (value == null) {
            return MvbTree.NO_KEY;
        }
        int first = current();
        while (first > oldest && value.equals(versions.get(first - 1).get(key))) {
            first--;
        }
        return first;
    }

    private int current() {
        return versions.size() - 1;
    }

    private boolean isKept(int version) {
        return version >= oldest && version <= current();
    }

    private TreeMap<Integer, Integer> at(int version) {
        return isKept(version) ? versions.get(version) : new TreeMap<>();
    }

    private TreeMap<Integer, Integer> range(int lo, int hi, int version) {
        return lo > hi ? new TreeMap<>() : new TreeMap<>(at(version).subMap(lo, true, hi, true));
    }

    private int orNone(Integer key) {
        return key == null ? MvbTree.NONE : key;
    }

    private int anyKey() {
        int[] edges = {-1001, -1000, 1000, 1001, Integer.MIN_VALUE, Integer.MAX_VALUE};
        return pick(12) == 0 ? edges[pick(edges.length)] : pick(keySpread) - keySpread / 2;
    }

    private int anyValue() {
        int[] edges = {0, Integer.MIN_VALUE, Integer.MAX_VALUE};
        return pick(6) == 0 ? edges[pick(edges.length)] : pick(4) - 1;
    }

    private int anyVersion() {
        int[] edges = {oldest - 1, current() + 1, oldest, current(), Integer.MIN_VALUE, Integer.MAX_VALUE,
            oldest - 41, current() + 41};
        return pick(4) == 0 ? edges[pick(edges.length)] : oldest + pick(current() - oldest + 1);
    }

    // A fixed sequence a run, so that a failure comes back the same.
    private int pick(int bound) {
        seed = seed * 6364136223846793005L + 1442695040888963407L;
        return (int) ((seed >>> 33) % bound);
    }

    private void due(String call, int got, int want) {
        if (got != want) {
            wrong++;
            System.out.println("run " + run + ": " + call + " answered " + got + ", due is " + want);
        }
    }
}
