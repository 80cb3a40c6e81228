// Promises 1 to 14, each by hand: ordinary inputs, the edges that the document names, wrong inputs.
public final class PromisesTest {
    private static final int MIN = Integer.MIN_VALUE;
    private static final int MAX = Integer.MAX_VALUE;

    private static int wrong = 0;

    public static void main(String[] args) {
        promise1NewObject();
        promise2Put();
        promise2PutRefusesBadKeys();
        promise2PutRefusesAtFullHistory();
        promise2PutRefusesAtFullStore();
        promise2PutTestsInOrder();
        promise3Erase();
        promise3EraseRefuses();
        promise3EraseTestsInOrder();
        promise4Forget();
        promise4ForgetRefuses();
        promise4ForgetFreesHistory();
        promise4ForgetKeepsTheRest();
        promises5And6CurrentAndOldest();
        promise7Has();
        promise8Get();
        promise9Count();
        promise10Sum();
        promise11Next();
        promise12KeyAt();
        promise13Differ();
        promise14Since();
        promise14SinceAndForget();
        versionsNeverChange();
        fullVersionsStayApart();
        objectsAreApart();
        callsThatAskChangeNothing();
        System.out.println(wrong == 0 ? "all answers are as due" : wrong + " answers are not as due");
        if (wrong != 0) {
            System.exit(1);
        }
    }

    private static void due(String call, int got, int want) {
        if (got != want) {
            wrong++;
            System.out.println(call + " answered " + got + ", due is " + want);
        }
    }

    private static void due(String call, boolean got, boolean want) {
        if (got != want) {
            wrong++;
            System.out.println(call + " answered " + got + ", due is " + want);
        }
    }

    // Versions: 0 {}, 1 {5:50}, 2 {-3:30, 5:50}, 3 {-3:30, 5:51}, 4 {-3:30}, 5 {-3:30, 1000:7}.
    private static MvbTree fiveVersions() {
        MvbTree x = new MvbTree();
        x.put(5, 50);
        x.put(-3, 30);
        x.put(5, 51);
        x.erase(5);
        x.put(1000, 7);
        return x;
    }

    // Keys 10, 20, .. 280, put in an order that is neither rising nor falling; 28 versions beside 0.
    private static MvbTree fullStore() {
        MvbTree x = new MvbTree();
        for (int i = 0; i < 28; i++) {
            int rank = i * 11 % 28;
            due("put on the way to a full store", x.put(10 * (rank + 1), rank + 1), i + 1);
        }
        return x;
    }

    private static MvbTree fullHistory() {
        MvbTree x = new MvbTree();
        for (int i = 1; i <= 40; i++) {
            due("put on the way to a full history", x.put(1, i), i);
        }
        return x;
    }

    // What a refused call must leave as it was.
    private static int[] stateOf(MvbTree x) {
        int kept = x.current() - x.oldest() + 1;
        int[] state = new int[2 + kept * 3];
        state[0] = x.current();
        state[1] = x.oldest();
        for (int i = 0; i < kept; i++) {
            int version = x.oldest() + i;
            state[2 + 3 * i] = x.count(MIN, MAX, version);
            state[3 + 3 * i] = x.sum(MIN, MAX, version);
            state[4 + 3 * i] = x.keyAt(0, version);
        }
        return state;
    }

    private static void dueSameState(String when, MvbTree x, int[] before) {
        due("same state " + when, java.util.Arrays.equals(stateOf(x), before), true);
    }

    private static void promise1NewObject() {
        MvbTree x = new MvbTree();
        due("new: current", x.current(), 0);
        due("new: oldest", x.oldest(), 0);
        due("new: count", x.count(MIN, MAX, 0), 0);
        due("new: sum", x.sum(MIN, MAX, 0), 0);
        due("new: has 0", x.has(0, 0), false);
        due("new: get 0", x.get(0, 0), 0);
        due("new: next", x.next(MIN, 0), MvbTree.NONE);
        due("new: keyAt", x.keyAt(0, 0), MvbTree.NONE);
        due("new: differ", x.differ(MIN, MAX, 0, 0), 0);
        due("new: since", x.since(0), MvbTree.NO_KEY);
        due("new: no version 1", x.count(MIN, MAX, 1), MvbTree.BAD_VERSION);
        due("new: no version -1", x.count(MIN, MAX, -1), MvbTree.BAD_VERSION);
        due("new: forget 0", x.forget(0), 0);
        due("new: erase", x.erase(0), MvbTree.NO_KEY);
    }

    private static void promise2Put() {
        MvbTree x = new MvbTree();
        due("put new", x.put(5, 50), 1);
        due("put current", x.current(), 1);
        due("put has", x.has(5, 1), true);
        due("put get", x.get(5, 1), 50);
        due("put instead", x.put(5, 51), 2);
        due("put instead: new value", x.get(5, 2), 51);
        due("put instead: one key", x.count(MIN, MAX, 2), 1);
        due("put same value makes a version", x.put(5, 51), 3);
        due("put same value: get", x.get(5, 3), 51);
        due("put lowest key", x.put(-1000, MIN), 4);
        due("put greatest key", x.put(1000, MAX), 5);
        due("put lowest: get", x.get(-1000, 5), MIN);
        due("put greatest: get", x.get(1000, 5), MAX);
        due("put zero key, zero value", x.put(0, 0), 6);
        due("put zero value: has", x.has(0, 6), true);
        due("put keeps the others", x.get(5, 6), 51);
        due("put: order", x.keyAt(0, 6), -1000);
        due("put: order", x.keyAt(1, 6), 0);
        due("put: order", x.keyAt(2, 6), 5);
        due("put: order", x.keyAt(3, 6), 1000);
    }

    private static void promise2PutRefusesBadKeys() {
        MvbTree x = fiveVersions();
        int[] before = stateOf(x);
        for (int key : new int[] {-1001, 1001, MIN, MAX, MvbTree.NONE}) {
            due("put(" + key + ", 1)", x.put(key, 1), MvbTree.BAD_KEY);
        }
        dueSameState("after puts of bad keys", x, before);
    }

    private static void promise2PutRefusesAtFullHistory() {
        MvbTree x = fullHistory();
        int[] before = stateOf(x);
        due("put new at full history", x.put(2, 2), MvbTree.HISTORY_FULL);
        due("put old at full history", x.put(1, 40), MvbTree.HISTORY_FULL);
        dueSameState("after puts at full history", x, before);
        for (int version = 1; version <= 40; version++) {
            due("get in version " + version, x.get(1, version), version);
        }
        due("version 0 is kept", x.count(MIN, MAX, 0), 0);
    }

    private static void promise2PutRefusesAtFullStore() {
        MvbTree x = fullStore();
        int[] before = stateOf(x);
        due("full store: count", x.count(MIN, MAX, 28), 28);
        due("put new below all", x.put(5, 1), MvbTree.FULL);
        due("put new above all", x.put(300, 1), MvbTree.FULL);
        due("put new between", x.put(15, 1), MvbTree.FULL);
        dueSameState("after puts into a full store", x, before);
        due("put old into a full store", x.put(280, 99), 29);
        due("put old into a full store: get", x.get(280, 29), 99);
        due("erase from a full store", x.erase(10), 30);
        due("put into the room made", x.put(300, 5), 31);
        due("put when full again", x.put(10, 5), MvbTree.FULL);
        for (int rank = 0; rank < 28; rank++) {
            due("full store: keyAt " + rank, x.keyAt(rank, 28), 10 * (rank + 1));
            due("full store: get", x.get(10 * (rank + 1), 28), rank + 1);
        }
        due("last full version: first", x.keyAt(0, 31), 20);
        due("last full version: last", x.keyAt(27, 31), 300);
    }

    private static void promise2PutTestsInOrder() {
        MvbTree x = fullStore();
        due("bad key before FULL", x.put(1001, 0), MvbTree.BAD_KEY);
        for (int version = 29; version <= 40; version++) {
            due("put on the way", x.put(10, version), version);
        }
        due("bad key before HISTORY_FULL", x.put(-1001, 0), MvbTree.BAD_KEY);
        due("HISTORY_FULL before FULL", x.put(11, 0), MvbTree.HISTORY_FULL);
        due("forget one", x.forget(1), 39);
        due("FULL once there is history", x.put(11, 0), MvbTree.FULL);
        due("old key fits", x.put(10, 0), 41);
    }

    private static void promise3Erase() {
        MvbTree x = new MvbTree();
        x.put(1, 10);
        x.put(2, 20);
        x.put(3, 30);
        due("erase middle", x.erase(2), 4);
        due("erase current", x.current(), 4);
        due("erased", x.has(2, 4), false);
        due("erased: get", x.get(2, 4), 0);
        due("still in the past", x.get(2, 3), 20);
        due("others stay", x.get(1, 4), 10);
        due("others stay", x.get(3, 4), 30);
        due("others stay", x.count(MIN, MAX, 4), 2);
        due("erase first", x.erase(1), 5);
        due("erase first: rest", x.keyAt(0, 5), 3);
        due("erase last", x.erase(3), 6);
        due("empty", x.count(MIN, MAX, 6), 0);
        due("put again", x.put(2, 21), 7);
        due("put again: get", x.get(2, 7), 21);
        x.put(-1000, 1);
        x.put(1000, 2);
        due("erase lowest key", x.erase(-1000), 10);
        due("erase greatest key", x.erase(1000), 11);
        due("one key left", x.keyAt(0, 11), 2);
        due("one key left", x.keyAt(1, 11), MvbTree.NONE);
    }

    private static void promise3EraseRefuses() {
        MvbTree x = fiveVersions();
        int[] before = stateOf(x);
        for (int key : new int[] {-1001, 1001, MIN, MAX}) {
            due("erase(" + key + ")", x.erase(key), MvbTree.BAD_KEY);
        }
        due("erase never put", x.erase(6), MvbTree.NO_KEY);
        due("erase erased", x.erase(5), MvbTree.NO_KEY);
        due("erase lacking edge", x.erase(-1000), MvbTree.NO_KEY);
        dueSameState("after refused erases", x, before);
    }

    private static void promise3EraseTestsInOrder() {
        MvbTree x = fullHistory();
        int[] before = stateOf(x);
        due("bad key before HISTORY_FULL", x.erase(1001), MvbTree.BAD_KEY);
        due("NO_KEY before HISTORY_FULL", x.erase(2), MvbTree.NO_KEY);
        due("erase at full history", x.erase(1), MvbTree.HISTORY_FULL);
        dueSameState("after erases at full history", x, before);
        x.forget(1);
        due("erase with history", x.erase(1), 41);
        due("erased", x.has(1, 41), false);
        due("history full again", x.put(1, 1), MvbTree.HISTORY_FULL);
        due("NO_KEY at full history", x.erase(1), MvbTree.NO_KEY);
    }

    private static void promise4Forget() {
        MvbTree x = fiveVersions();
        due("forget 2", x.forget(2), 3);
        due("forget 2: oldest", x.oldest(), 2);
        due("forget 2: current", x.current(), 5);
        due("1 is gone: has", x.has(5, 1), false);
        due("1 is gone: get", x.get(5, 1), 0);
        due("1 is gone: count", x.count(MIN, MAX, 1), MvbTree.BAD_VERSION);
        due("2 stays", x.get(5, 2), 50);
        due("forget the oldest again", x.forget(2), 3);
        due("forget the oldest again: oldest", x.oldest(), 2);
        due("forget the current", x.forget(5), 0);
        due("forget the current: oldest", x.oldest(), 5);
        due("current stays", x.get(1000, 5), 7);
        due("put after forget", x.put(8, 80), 6);
        due("5 stays", x.count(MIN, MAX, 5), 2);
        due("4 stays gone", x.count(MIN, MAX, 4), MvbTree.BAD_VERSION);
    }

    private static void promise4ForgetRefuses() {
        MvbTree x = fiveVersions();
        x.forget(2);
        int[] before = stateOf(x);
        for (int version : new int[] {-1, 0, 1, 6, MIN, MAX}) {
            due("forget(" + version + ")", x.forget(version), MvbTree.BAD_VERSION);
        }
        dueSameState("after refused forgets", x, before);
    }

    private static void promise4ForgetFreesHistory() {
        MvbTree x = fullHistory();
        due("forget 3", x.forget(3), 37);
        for (int version = 41; version <= 43; version++) {
            due("put after forget", x.put(1, version), version);
        }
        due("full again", x.put(1, 44), MvbTree.HISTORY_FULL);
        due("forget all", x.forget(43), 0);
        for (int version = 44; version <= 83; version++) {
            due("put after forget of all", x.put(1, version), version);
        }
        due("full once more", x.put(1, 84), MvbTree.HISTORY_FULL);
        for (int version = 43; version <= 83; version++) {
            due("get in version " + version, x.get(1, version), version);
        }
    }

    private static void promise4ForgetKeepsTheRest() {
        MvbTree x = new MvbTree();
        for (int version = 1; version <= 40; version++) {
            x.put(version % 7, version);
        }
        for (int version = 41; version <= 100; version++) {
            due("forget one", x.forget(version - 40), 39);
            due("put one", x.put(version % 7, version), version);
            due("oldest kept: its key", x.get((version - 40) % 7, version - 40), version - 40);
            due("newest: its key", x.get(version % 7, version), version);
            due("before newest: old value", x.get(version % 7, version - 1), version - 7);
        }
    }

    private static void promises5And6CurrentAndOldest() {
        MvbTree x = new MvbTree();
        x.put(1, 1);
        due("current after put", x.current(), 1);
        x.erase(1);
        due("current after erase", x.current(), 2);
        due("oldest after changes", x.oldest(), 0);
        x.erase(1);
        x.put(2000, 1);
        x.forget(3);
        due("current after refusals", x.current(), 2);
        due("oldest after refusals", x.oldest(), 0);
        x.forget(1);
        due("current after forget", x.current(), 2);
        due("oldest after forget", x.oldest(), 1);
        x.forget(0);
        due("oldest never goes back", x.oldest(), 1);
    }

    private static void promise7Has() {
        MvbTree x = fiveVersions();
        boolean[] five = {false, true, true, true, false, false};
        for (int version = 0; version <= 5; version++) {
            due("has(5, " + version + ")", x.has(5, version), five[version]);
        }
        due("has(1000, 5)", x.has(1000, 5), true);
        due("has(1000, 4)", x.has(1000, 4), false);
        for (int key : new int[] {-1001, 1001, MIN, MAX, 0}) {
            due("has(" + key + ", 5)", x.has(key, 5), false);
        }
        for (int version : new int[] {-1, 6, 41, MIN, MAX}) {
            due("has(-3, " + version + ")", x.has(-3, version), false);
        }
        x.forget(3);
        due("has in a forgotten version", x.has(5, 2), false);
        due("has in the oldest", x.has(5, 3), true);
    }

    private static void promise8Get() {
        MvbTree x = fiveVersions();
        int[] five = {0, 50, 50, 51, 0, 0};
        for (int version = 0; version <= 5; version++) {
            due("get(5, " + version + ")", x.get(5, version), five[version]);
        }
        for (int key : new int[] {-1001, 1001, MIN, MAX, 0}) {
            due("get(" + key + ", 5)", x.get(key, 5), 0);
        }
        for (int version : new int[] {-1, 6, 41, MIN, MAX}) {
            due("get(-3, " + version + ")", x.get(-3, version), 0);
        }
        x.forget(3);
        due("get in a forgotten version", x.get(5, 2), 0);
        due("get in the oldest", x.get(5, 3), 51);
    }

    private static void promise9Count() {
        MvbTree x = fiveVersions();
        int[] all = {0, 1, 2, 2, 1, 2};
        for (int version = 0; version <= 5; version++) {
            due("count all in " + version, x.count(MIN, MAX, version), all[version]);
            due("count keys in " + version, x.count(-1000, 1000, version), all[version]);
        }
        due("both ends count", x.count(-3, 5, 2), 2);
        due("low end counts", x.count(-3, 4, 2), 1);
        due("high end counts", x.count(-2, 5, 2), 1);
        due("between", x.count(-2, 4, 2), 0);
        due("one key", x.count(5, 5, 2), 1);
        due("lo > hi", x.count(5, -3, 2), 0);
        due("lo > hi, far", x.count(MAX, MIN, 2), 0);
        due("below all keys", x.count(MIN, -1001, 2), 0);
        due("above all keys", x.count(1001, MAX, 5), 0);
        for (int version : new int[] {-1, 6, MIN, MAX}) {
            due("count in " + version, x.count(-1000, 1000, version), MvbTree.BAD_VERSION);
            due("count lo > hi in " + version, x.count(1, 0, version), MvbTree.BAD_VERSION);
        }
        x.forget(3);
        due("count in a forgotten version", x.count(MIN, MAX, 2), MvbTree.BAD_VERSION);
    }

    private static void promise10Sum() {
        MvbTree x = fiveVersions();
        int[] all = {0, 50, 80, 81, 30, 37};
        for (int version = 0; version <= 5; version++) {
            due("sum all in " + version, x.sum(MIN, MAX, version), all[version]);
        }
        due("both ends count", x.sum(-3, 5, 2), 80);
        due("low end counts", x.sum(-3, 4, 2), 30);
        due("high end counts", x.sum(-2, 5, 2), 50);
        due("between", x.sum(-2, 4, 2), 0);
        due("lo > hi", x.sum(5, -3, 2), 0);
        for (int version : new int[] {-1, 6, MIN, MAX}) {
            due("sum in " + version, x.sum(MIN, MAX, version), 0);
        }
        x.forget(3);
        due("sum in a forgotten version", x.sum(MIN, MAX, 2), 0);
        x.put(-10, MAX);
        x.put(-9, 1);
        due("sum wraps up", x.sum(-10, -9, 7), MIN);
        x.put(-9, MAX);
        due("sum wraps", x.sum(-10, -9, 8), -2);
        x.put(-10, MIN);
        x.put(-9, -1);
        due("sum wraps down", x.sum(-10, -9, 10), MAX);
    }

    private static void promise11Next() {
        MvbTree x = fiveVersions();
        due("next from below", x.next(MIN, 3), -3);
        due("next before a key", x.next(-4, 3), -3);
        due("next at a key", x.next(-3, 3), 5);
        due("next between", x.next(0, 3), 5);
        due("next before the last", x.next(4, 3), 5);
        due("next at the last", x.next(5, 3), MvbTree.NONE);
        due("next from above", x.next(MAX, 3), MvbTree.NONE);
        due("next to the greatest key", x.next(999, 5), 1000);
        due("next at the greatest key", x.next(1000, 5), MvbTree.NONE);
        due("next in version 0", x.next(MIN, 0), MvbTree.NONE);
        for (int version : new int[] {-1, 6, MIN, MAX}) {
            due("next in " + version, x.next(MIN, version), MvbTree.NONE);
        }
        x.forget(3);
        due("next in a forgotten version", x.next(MIN, 2), MvbTree.NONE);
        x.put(-1000, 1);
        due("next to the lowest key", x.next(-1001, 6), -1000);
        due("next at the lowest key", x.next(-1000, 6), -3);
    }

    private static void promise12KeyAt() {
        MvbTree x = fiveVersions();
        due("keyAt 0", x.keyAt(0, 2), -3);
        due("keyAt 1", x.keyAt(1, 2), 5);
        due("keyAt past the last", x.keyAt(2, 2), MvbTree.NONE);
        due("keyAt -1", x.keyAt(-1, 2), MvbTree.NONE);
        due("keyAt 28", x.keyAt(28, 2), MvbTree.NONE);
        due("keyAt least int", x.keyAt(MIN, 2), MvbTree.NONE);
        due("keyAt greatest int", x.keyAt(MAX, 2), MvbTree.NONE);
        due("keyAt after erase", x.keyAt(1, 4), MvbTree.NONE);
        due("keyAt in version 0", x.keyAt(0, 0), MvbTree.NONE);
        for (int version : new int[] {-1, 6, MIN, MAX}) {
            due("keyAt in " + version, x.keyAt(0, version), MvbTree.NONE);
        }
        x.forget(3);
        due("keyAt in a forgotten version", x.keyAt(0, 2), MvbTree.NONE);
    }

    private static void promise13Differ() {
        MvbTree x = fiveVersions();
        due("same version", x.differ(MIN, MAX, 3, 3), 0);
        due("gained", x.differ(MIN, MAX, 1, 2), 1);
        due("lost", x.differ(MIN, MAX, 2, 1), 1);
        due("changed", x.differ(MIN, MAX, 2, 3), 1);
        due("changed, turned", x.differ(MIN, MAX, 3, 2), 1);
        due("gained and lost", x.differ(MIN, MAX, 1, 5), 3);
        due("gained and lost, turned", x.differ(MIN, MAX, 5, 1), 3);
        due("from nothing", x.differ(MIN, MAX, 0, 5), 2);
        due("both ends count", x.differ(-3, 1000, 1, 5), 3);
        due("low end left out", x.differ(-2, 1000, 1, 5), 2);
        due("high end left out", x.differ(-3, 999, 1, 5), 2);
        due("one key", x.differ(5, 5, 2, 3), 1);
        due("other key", x.differ(-3, -3, 2, 3), 0);
        due("lo > hi", x.differ(5, -3, 0, 5), 0);
        for (int version : new int[] {-1, 6, MIN, MAX}) {
            due("differ A " + version, x.differ(MIN, MAX, version, 3), MvbTree.BAD_VERSION);
            due("differ B " + version, x.differ(MIN, MAX, 3, version), MvbTree.BAD_VERSION);
            due("differ both " + version, x.differ(MIN, MAX, version, version), MvbTree.BAD_VERSION);
            due("differ lo > hi, " + version, x.differ(1, 0, version, 3), MvbTree.BAD_VERSION);
        }
        x.forget(3);
        due("differ from a forgotten version", x.differ(MIN, MAX, 2, 3), MvbTree.BAD_VERSION);
        x.put(0, 0);
        due("a zero value is not a lack", x.differ(MIN, MAX, 5, 6), 1);
        x.put(0, 0);
        due("the same value put again", x.differ(MIN, MAX, 6, 7), 0);
    }

    private static void promise14Since() {
        MvbTree x = fiveVersions();
        due("since the second", x.since(-3), 2);
        due("since the current", x.since(1000), 5);
        due("since erased", x.since(5), MvbTree.NO_KEY);
        for (int key : new int[] {0, -1001, 1001, MIN, MAX}) {
            due("since(" + key + ")", x.since(key), MvbTree.NO_KEY);
        }
        x.put(-3, 30);
        due("the same value goes on", x.since(-3), 2);
        x.put(-3, 31);
        due("another value", x.since(-3), 7);
        x.put(-3, 30);
        due("back to an earlier value", x.since(-3), 8);
        x.erase(-3);
        due("erased", x.since(-3), MvbTree.NO_KEY);
        x.put(-3, 30);
        due("the same value after a gap", x.since(-3), 10);
        x.put(5, 51);
        due("a later key", x.since(5), 11);
        x.put(0, 0);
        due("a zero value after a lack", x.since(0), 12);
    }

    private static void promise14SinceAndForget() {
        MvbTree x = fiveVersions();
        x.forget(1);
        due("oldest before it", x.since(-3), 2);
        x.forget(2);
        due("oldest at it", x.since(-3), 2);
        x.forget(4);
        due("oldest after it", x.since(-3), 4);
        x.forget(5);
        due("the current alone", x.since(-3), 5);
        MvbTree y = new MvbTree();
        y.put(1, 1);
        for (int i = 0; i < 39; i++) {
            y.put(2, i);
        }
        due("through a full history", y.since(1), 1);
        y.forget(30);
        for (int i = 0; i < 30; i++) {
            y.put(2, i);
        }
        due("through a full history after forget", y.since(1), 30);
        due("beside it", y.since(2), 70);
    }

    private static void versionsNeverChange() {
        MvbTree x = new MvbTree();
        for (int version = 1; version <= 20; version++) {
            x.put(100 - version, version);
        }
        for (int version = 21; version <= 40; version++) {
            x.erase(100 - (version - 20));
        }
        for (int version = 0; version <= 40; version++) {
            int last = version <= 20 ? version : 20;
            int first = version <= 20 ? 1 : version - 19;
            due("count in " + version, x.count(MIN, MAX, version), last - first + 1);
            due("sum in " + version, x.sum(MIN, MAX, version), (last + first) * (last - first + 1) / 2);
            due("first in " + version, x.keyAt(0, version), last < first ? MvbTree.NONE : 100 - last);
        }
    }

    // At both bounds at once: 41 kept versions with 28 or 27 keys each, erased and put at the low end.
    private static void fullVersionsStayApart() {
        MvbTree x = fullStore();
        due("forget down to the full version", x.forget(28), 0);
        due("put old", x.put(280, 28), 29);
        for (int version = 30; version <= 68; version++) {
            int got = version % 2 == 0 ? x.erase(10) : x.put(10, 1);
            due("change of a full version", got, version);
        }
        for (int version = 28; version <= 68; version++) {
            boolean isErased = version >= 30 && version % 2 == 0;
            due("count in " + version, x.count(MIN, MAX, version), isErased ? 27 : 28);
            due("sum in " + version, x.sum(MIN, MAX, version), isErased ? 405 : 406);
            due("first in " + version, x.keyAt(0, version), isErased ? 20 : 10);
            due("last in " + version, x.keyAt(isErased ? 26 : 27, version), 280);
        }
        due("one change too many", x.put(10, 1), MvbTree.HISTORY_FULL);
    }

    private static void objectsAreApart() {
        MvbTree x = new MvbTree();
        MvbTree y = new MvbTree();
        x.put(1, 10);
        due("other object: current", y.current(), 0);
        due("other object: put", y.put(1, 20), 1);
        due("first object: get", x.get(1, 1), 10);
        due("other object: get", y.get(1, 1), 20);
    }

    private static void callsThatAskChangeNothing() {
        MvbTree x = fiveVersions();
        x.forget(1);
        int[] before = stateOf(x);
        for (int version : new int[] {0, 1, 3, 5, 6}) {
            x.has(5, version);
            x.get(5, version);
            x.count(0, 10, version);
            x.sum(0, 10, version);
            x.next(0, version);
            x.keyAt(1, version);
            x.differ(0, 10, version, 2);
            x.since(version);
        }
        dueSameState("after calls that ask", x, before);
    }
}
