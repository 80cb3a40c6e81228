import java.util.ArrayList;
import java.util.List;
import java.util.function.Supplier;
import java.util.function.ToIntFunction;

// Each sentence of 'What it is', 'Terms' and promise 1 that names a boundary case, with a test of its own.
public final class TermsTest extends Sentences {
    public static void main(String[] args) {
        check("What it is: any version that is still kept can be asked as it was", TermsTest::keptVersionsAsTheyWere);
        check("What it is: at most 512 calls", TermsTest::the512thCallIsPromised);
        check("Terms: keys are -1000 to 1000", TermsTest::keysFromLeastToGreatest);
        check("Terms: values any int", TermsTest::valuesAnyInt);
        check("Terms: versions are numbered 0, 1, 2, ..", TermsTest::versionsAreNumberedInTurn);
        check("Terms: version 0 is the empty store", TermsTest::version0IsEmpty);
        check("Terms: the versions from oldest to current are kept", TermsTest::keptFromOldestToCurrent);
        check("Terms: at the start both are 0", TermsTest::startAtVersion0);
        check("Terms: what a version holds never changes", TermsTest::versionsNeverChange);
        check("Terms: NONE = 100000", TermsTest::noneIsAnsweredByNextAndKeyAt);
        check("Terms: the calls below change nothing", TermsTest::asksChangeNothing);
        check("1: a store with version 0 alone", TermsTest::newHasVersion0Alone);
        end();
    }

    private static void keptVersionsAsTheyWere() {
        for (int version = 60; version <= 100; version++) {
            MvbTree x = longUsed();
            due("count in " + version, x.count(MIN, MAX, version), 28);
            for (int rank = 0; rank < 28; rank++) {
                int put = version - (version - rank) % 28;
                due("get(" + 10 * rank + ", " + version + ")", x.get(10 * rank, version), put);
            }
        }
    }

    // 511 changes and forgets, then each kind of call as the 512th.
    private static void the512thCallIsPromised() {
        List<ToIntFunction<MvbTree>> last = List.of(x -> x.put(2, 0), x -> x.erase(1), x -> x.forget(480),
                x -> x.current(), x -> x.oldest(), x -> x.has(1, 492) ? 1 : 0, x -> x.get(1, 499),
                x -> x.count(1, 1, 499), x -> x.sum(1, 1, 480), x -> x.next(0, 499), x -> x.keyAt(0, 499),
                x -> x.differ(1, 1, 498, 499), x -> x.since(1));
        int[] want = {500, 500, 19, 499, 480, 1, 499, 1, 480, 1, 1, 1, 499};
        for (int i = 0; i < want.length; i++) {
            due("the 512th call, kind " + i, last.get(i).applyAsInt(usedFor511Calls()), want[i]);
        }
    }

    private static MvbTree usedFor511Calls() {
        MvbTree x = new MvbTree();
        int current = 0;
        int oldest = 0;
        for (int call = 1; call <= 511; call++) {
            if (current - oldest == 40) {
                oldest = current;
                due("forget on the way", x.forget(current), 0);
            } else {
                current++;
                due("put on the way", x.put(1, current), current);
            }
        }
        return x;
    }

    private static void keysFromLeastToGreatest() {
        MvbTree x = new MvbTree();
        int[] keys = {-1000, 1000, -999, 999, 0};
        for (int i = 0; i < keys.length; i++) {
            due("put(" + keys[i] + ")", x.put(keys[i], i + 1), i + 1);
            due("get(" + keys[i] + ")", x.get(keys[i], i + 1), i + 1);
        }
        for (int i = 0; i < keys.length; i++) {
            due("erase(" + keys[i] + ")", x.erase(keys[i]), 6 + i);
            due("has(" + keys[i] + ")", x.has(keys[i], 6 + i), false);
        }
    }

    private static void valuesAnyInt() {
        int[] values = {0, 1, -1, -2, -3, -4, -5, 28, 40, 100000, -100000, MIN, MIN + 1, MAX - 1, MAX};
        MvbTree x = new MvbTree();
        for (int i = 0; i < values.length; i++) {
            due("put(4, " + values[i] + ")", x.put(4, values[i]), i + 1);
            due("get of " + values[i], x.get(4, i + 1), values[i]);
            due("has with " + values[i], x.has(4, i + 1), true);
            due("sum of " + values[i], x.sum(4, 4, i + 1), values[i]);
            due("since with " + values[i], x.since(4), i + 1);
        }
    }

    private static void versionsAreNumberedInTurn() {
        MvbTree x = new MvbTree();
        for (int version = 1; version <= 40; version++) {
            int key = (version - 1) / 2;
            due("change " + version, version % 2 == 1 ? x.put(key, 1) : x.erase(key), version);
        }
        x.put(0, 1);
        x.forget(40);
        due("the number after a refused call and a forget", x.put(0, 1), 41);
    }

    private static void version0IsEmpty() {
        List<Supplier<MvbTree>> withVersion0 = List.of(MvbTree::new, Sentences::fullHistory,
                Sentences::fullStoreAndHistory);
        for (Supplier<MvbTree> make : withVersion0) {
            MvbTree x = make.get();
            due("count in version 0", x.count(MIN, MAX, 0), 0);
            due("sum in version 0", x.sum(MIN, MAX, 0), 0);
            due("keyAt in version 0", x.keyAt(0, 0), MvbTree.NONE);
            due("next in version 0", x.next(MIN, 0), MvbTree.NONE);
            due("has in version 0", x.has(0, 0), false);
            due("get in version 0", x.get(1, 0), 0);
        }
    }

    private static void keptFromOldestToCurrent() {
        for (Supplier<MvbTree> make : allObjects()) {
            MvbTree x = make.get();
            int oldest = x.oldest();
            int current = x.current();
            for (int version = oldest - 45; version <= current + 45; version++) {
                boolean isKept = version >= oldest && version <= current;
                due("is kept: " + version, x.count(1, 0, version) != MvbTree.BAD_VERSION, isKept);
            }
        }
    }

    private static void startAtVersion0() {
        due("current of a new object", new MvbTree().current(), 0);
        due("oldest of a new object", new MvbTree().oldest(), 0);
    }

    // Each version as it was seen when it was made, held against how it is seen after each later change.
    private static void versionsNeverChange() {
        List<List<Object>> asMade = new ArrayList<>();
        for (int calls = 0; calls <= 90; calls++) {
            MvbTree x = changed(calls);
            if (x.current() == asMade.size()) {
                asMade.add(lookAt(x, x.current()));
            }
            for (int version = x.oldest(); version <= x.current(); version++) {
                List<Object> now = lookAt(changed(calls), version);
                due("version " + version + " after " + calls + " calls", now, asMade.get(version));
            }
        }
    }

    // Puts below, above and between, new values and erasures, first through a full history and then past it.
    private static MvbTree changed(int calls) {
        MvbTree x = new MvbTree();
        for (int call = 1; call <= calls; call++) {
            int key = call * 37 % 31 - 15;
            if (call > 40 && call % 2 == 1) {
                x.forget(x.oldest() + 1);
            } else if (call % 5 == 4 && x.count(MIN, MAX, x.current()) > 0) {
                x.erase(x.keyAt(call % x.count(MIN, MAX, x.current()), x.current()));
            } else {
                x.put(key, call);
            }
        }
        return x;
    }

    private static void noneIsAnsweredByNextAndKeyAt() {
        due("NONE", MvbTree.NONE, 100000);
        due("next", new MvbTree().next(0, 0), 100000);
        due("keyAt", new MvbTree().keyAt(0, 0), 100000);
    }

    private static void asksChangeNothing() {
        int[] numbers = {MIN, -1001, -1000, -3, 0, 5, 1000, 1001, 100000, MAX};
        for (Supplier<MvbTree> make : allObjects()) {
            Supplier<MvbTree> after = () -> askedWithEach(numbers, make.get());
            due("the state after asking", lookAtAll(after), lookAtAll(make));
            due("changes made after asking", lookAtAll(() -> changedOn(after.get())),
                    lookAtAll(() -> changedOn(make.get())));
        }
    }

    private static MvbTree askedWithEach(int[] numbers, MvbTree x) {
        for (int i = 0; i < numbers.length; i++) {
            int other = numbers[numbers.length - 1 - i];
            int version = i % 2 == 0 ? x.oldest() + i - 1 : x.current() - i + 2;
            x.has(numbers[i], version);
            x.get(numbers[i], version);
            x.count(numbers[i], other, version);
            x.sum(numbers[i], other, version);
            x.next(numbers[i], version);
            x.keyAt(numbers[i], version);
            x.differ(numbers[i], other, version, x.oldest());
            x.since(numbers[i]);
        }
        return x;
    }

    private static void newHasVersion0Alone() {
        MvbTree x = new MvbTree();
        due("version 0 is kept", x.count(MIN, MAX, 0), 0);
        for (int version : notKept(x)) {
            due("version " + version + " is kept", x.count(MIN, MAX, version), MvbTree.BAD_VERSION);
        }
        due("forget(0)", x.forget(0), 0);
        due("forget(1)", x.forget(1), MvbTree.BAD_VERSION);
        due("erase", x.erase(0), MvbTree.NO_KEY);
        due("put", x.put(0, 0), 1);
    }
}
