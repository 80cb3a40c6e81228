import java.util.ArrayList;
import java.util.List;
import java.util.function.Supplier;
import java.util.function.ToIntFunction;

// What the tests of single sentences share: objects to start from, looks at the whole, and the tally.
// No object is used for more than the 512 calls that are promised: a look at the whole of a long
// history makes the object anew for each version that it looks at.
class Sentences {
    static final int MIN = Integer.MIN_VALUE;
    static final int MAX = Integer.MAX_VALUE;
    static final int[] NO_KEYS = {MIN, MIN + 1, -100000, -1001, 1001, 100000, MAX - 1, MAX};

    private static String sentence = "";
    private static int wrong = 0;

    static void check(String words, Runnable test) {
        sentence = words;
        try {
            test.run();
        } catch (RuntimeException thrown) {
            wrong++;
            System.out.println("[" + sentence + "] " + thrown);
        }
    }

    static void due(String call, Object got, Object want) {
        if (!got.equals(want)) {
            wrong++;
            System.out.println("[" + sentence + "] " + call + " answered " + got + ", due is " + want);
        }
    }

    static void end() {
        System.out.println(wrong == 0 ? "all sentences hold" : wrong + " answers are not as due");
        if (wrong != 0) {
            System.exit(1);
        }
    }

    // ---- Objects to start from

    // Version v, 1 to n, has key 1 with value v.
    static MvbTree historyOf(int n) {
        MvbTree x = new MvbTree();
        for (int version = 1; version <= n; version++) {
            x.put(1, version);
        }
        return x;
    }

    static MvbTree fullHistory() {
        return historyOf(40);
    }

    // Keys 0, 10, .. 270 with values 1 to 28, put in neither rising nor falling order; version 28.
    static MvbTree fullStore() {
        MvbTree x = new MvbTree();
        for (int i = 0; i < 28; i++) {
            int rank = i * 11 % 28;
            x.put(10 * rank, rank + 1);
        }
        return x;
    }

    // Each version v from 29 on differs from the one before in key 10 * (v % 28) alone, which has value v.
    static MvbTree fullStoreAndHistory() {
        MvbTree x = fullStore();
        for (int version = 29; version <= 40; version++) {
            x.put(10 * (version % 28), version);
        }
        return x;
    }

    // Goes on in the same way; versions 60 to 100 are kept.
    static MvbTree longUsed() {
        MvbTree x = fullStoreAndHistory();
        for (int version = 41; version <= 100; version++) {
            x.forget(version - 40);
            x.put(10 * (version % 28), version);
        }
        return x;
    }

    // Versions: 0 {}, 1 {5:50}, 2 {-3:30, 5:50}, 3 {-3:30, 5:51}, 4 {-3:30}, 5 {-3:30, 1000:7}; 2 to 5 are kept.
    static MvbTree shortUsed() {
        MvbTree x = new MvbTree();
        x.put(5, 50);
        x.put(-3, 30);
        x.put(5, 51);
        x.erase(5);
        x.put(1000, 7);
        x.forget(2);
        return x;
    }

    static List<Supplier<MvbTree>> allObjects() {
        return List.of(MvbTree::new, Sentences::shortUsed, Sentences::fullHistory, Sentences::fullStore,
                Sentences::fullStoreAndHistory, Sentences::longUsed);
    }

    static int[] notKept(MvbTree x) {
        return new int[] {x.oldest() - 1, x.current() + 1, x.oldest() - 41, x.current() + 41, x.oldest() - 82,
            x.current() + 82, MIN, MIN + 1, MAX - 1, MAX};
    }

    // ---- Looks at the whole

    static List<Object> lookAt(MvbTree x, int version) {
        List<Object> seen = new ArrayList<>();
        seen.add(x.count(MIN, MAX, version));
        seen.add(x.sum(MIN, MAX, version));
        for (int i = -1; i <= 28; i++) {
            int key = x.keyAt(i, version);
            seen.add(key);
            seen.add(x.has(key, version));
            seen.add(x.get(key, version));
            seen.add(x.next(key - 1, version));
        }
        return seen;
    }

    static List<Object> lookAtAll(Supplier<MvbTree> make) {
        List<Object> seen = new ArrayList<>();
        MvbTree x = make.get();
        seen.add(x.oldest());
        seen.add(x.current());
        for (int version = x.oldest() - 1; version <= x.current() + 1; version++) {
            MvbTree y = make.get();
            seen.add(lookAt(y, version));
            seen.add(y.differ(MIN, MAX, version, y.current()));
        }
        for (int i = 0; i < 28; i++) {
            int key = x.keyAt(i, x.current());
            seen.add(x.since(key));
        }
        return seen;
    }

    // A change may also be hidden until the next one is made.
    static MvbTree changedOn(MvbTree x) {
        x.forget(Math.min(x.oldest() + 2, x.current()));
        x.put(0, 77);
        x.erase(10);
        x.put(-5, 78);
        return x;
    }

    static void refused(String call, Supplier<MvbTree> make, ToIntFunction<MvbTree> refused, int want) {
        Supplier<MvbTree> after = () -> {
            MvbTree x = make.get();
            due(call, refused.applyAsInt(x), want);
            return x;
        };
        due("the state after " + call, lookAtAll(after), lookAtAll(make));
        due("changes made after " + call, lookAtAll(() -> changedOn(after.get())),
                lookAtAll(() -> changedOn(make.get())));
    }
}
