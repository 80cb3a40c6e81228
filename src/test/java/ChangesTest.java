import java.util.List;
import java.util.function.Supplier;

// Each sentence of promises 2 to 6 that names a boundary case, with a test of its own.
public final class ChangesTest extends Sentences {
    public static void main(String[] args) {
        check("2: as the current one but has this value, new", ChangesTest::putNew);
        check("2: .. instead of the old value", ChangesTest::putInstead);
        check("2: .. also if the value is the same", ChangesTest::putSameValue);
        check("2: key not in -1000 to 1000: BAD_KEY", ChangesTest::putBadKey);
        check("2: current - oldest is 40: HISTORY_FULL", ChangesTest::putHistoryFull);
        check("2: lacks the key and has 28 keys: FULL", ChangesTest::putFull);
        check("2: it is the current version that lacks the key", ChangesTest::putFullLooksAtCurrent);
        check("2: tests in this order", ChangesTest::putTestsInOrder);
        check("2: a refused call changes nothing", ChangesTest::putRefusedChangesNothing);
        check("2: else answers the new current version", ChangesTest::putAnswersNewCurrent);
        check("3: as the current one without this key", ChangesTest::eraseTakesOneKey);
        check("3: key not in -1000 to 1000: BAD_KEY", ChangesTest::eraseBadKey);
        check("3: the current version lacks the key: NO_KEY", ChangesTest::eraseNoKey);
        check("3: current - oldest is 40: HISTORY_FULL", ChangesTest::eraseHistoryFull);
        check("3: tests in this order", ChangesTest::eraseTestsInOrder);
        check("3: a refused call changes nothing", ChangesTest::eraseRefusedChangesNothing);
        check("3: else answers the new current version", ChangesTest::eraseAnswersNewCurrent);
        check("4: no version before 'version' is kept", ChangesTest::forgetDropsWhatIsBefore);
        check("4: oldest becomes version", ChangesTest::forgetSetsOldest);
        check("4: not in oldest to current: BAD_VERSION", ChangesTest::forgetBadVersion);
        check("4: .. nothing changes", ChangesTest::forgetRefusedChangesNothing);
        check("4: else answers current - oldest afterwards", ChangesTest::forgetAnswersTheSpan);
        check("4: no version that is still kept changes", ChangesTest::forgetLeavesTheRest);
        check("5: the current version", ChangesTest::currentMovesWithChangesAlone);
        check("6: the oldest version that is kept", ChangesTest::oldestMovesWithForgetAlone);
        end();
    }

    // ---- Promise 2: put

    // From none to 28 keys: below all, above all, and between each two.
    private static void putNew() {
        for (int added = 0; added < 28; added++) {
            MvbTree x = new MvbTree();
            for (int rank = 0; rank < 28; rank++) {
                if (rank != added) {
                    x.put(10 * rank, rank);
                }
            }
            due("put of the 28th key", x.put(10 * added, added), 28);
            due("count", x.count(MIN, MAX, 28), 28);
            for (int rank = 0; rank < 28; rank++) {
                due("keyAt(" + rank + ")", x.keyAt(rank, 28), 10 * rank);
                due("get(" + 10 * rank + ")", x.get(10 * rank, 28), rank);
            }
            due("the version before lacks it", x.has(10 * added, 27), false);
        }
    }

    private static void putInstead() {
        for (int changed = 0; changed < 28; changed++) {
            MvbTree x = fullStore();
            due("put instead", x.put(10 * changed, -9), 29);
            due("count", x.count(MIN, MAX, 29), 28);
            for (int rank = 0; rank < 28; rank++) {
                due("keyAt(" + rank + ")", x.keyAt(rank, 29), 10 * rank);
                due("get(" + 10 * rank + ")", x.get(10 * rank, 29), rank == changed ? -9 : rank + 1);
                due("get before", x.get(10 * rank, 28), rank + 1);
            }
        }
    }

    private static void putSameValue() {
        MvbTree x = fullStore();
        due("put of the same value", x.put(50, 6), 29);
        due("put of the same value again", x.put(50, 6), 30);
        due("current", x.current(), 30);
        due("differ", x.differ(MIN, MAX, 28, 30), 0);
        due("get", x.get(50, 30), 6);
        MvbTree y = historyOf(39);
        due("put of the same value at 39", y.put(1, 39), 40);
        due("put of the same value at 40", y.put(1, 39), MvbTree.HISTORY_FULL);
    }

    private static void putBadKey() {
        for (int key : NO_KEYS) {
            due("put(" + key + ")", shortUsed().put(key, 1), MvbTree.BAD_KEY);
            due("put(" + key + ") on a new object", new MvbTree().put(key, 0), MvbTree.BAD_KEY);
        }
        due("put(-1000)", shortUsed().put(-1000, 1), 6);
        due("put(1000)", shortUsed().put(1000, 1), 6);
    }

    private static void putHistoryFull() {
        MvbTree x = historyOf(39);
        due("put at 39", x.put(2, 2), 40);
        due("put of a new key at 40", x.put(3, 3), MvbTree.HISTORY_FULL);
        due("put of an old key at 40", x.put(1, 1), MvbTree.HISTORY_FULL);
        x.forget(1);
        due("put at 39 after forget", x.put(1, 1), 41);
        due("put at 40 after forget", x.put(1, 1), MvbTree.HISTORY_FULL);
        MvbTree y = longUsed();
        due("put at 40 after long use", y.put(0, 0), MvbTree.HISTORY_FULL);
        y.forget(100);
        for (int version = 101; version <= 140; version++) {
            due("put at " + (version - 101), y.put(0, 0), version);
        }
        due("put at 40 once more", y.put(0, 0), MvbTree.HISTORY_FULL);
    }

    private static void putFull() {
        MvbTree x = new MvbTree();
        for (int i = 1; i <= 28; i++) {
            due("put with " + (i - 1) + " keys", x.put(2 * i, i), i);
        }
        for (int key = 1; key <= 57; key += 2) {
            due("put(" + key + ") with 28 keys", x.put(key, 1), MvbTree.FULL);
        }
        due("put(-1000) with 28 keys", x.put(-1000, 1), MvbTree.FULL);
        due("put(1000) with 28 keys", x.put(1000, 1), MvbTree.FULL);
        due("put of the first of 28", x.put(2, 1), 29);
        due("put of the last of 28", x.put(56, 1), 30);
    }

    private static void putFullLooksAtCurrent() {
        MvbTree x = fullStore();
        due("erase", x.erase(0), 29);
        due("put with 27 keys, 28 in the version before", x.put(5, 5), 30);
        due("put of a key that a past version has", x.put(0, 0), MvbTree.FULL);
        due("put of a key that no past version has", x.put(1, 0), MvbTree.FULL);
        due("put of a key that the current version has", x.put(5, 6), 31);
        x.forget(31);
        due("put with 28 keys after forget", x.put(0, 0), MvbTree.FULL);
    }

    private static void putTestsInOrder() {
        for (int key : NO_KEYS) {
            due("bad key, full history", fullHistory().put(key, 1), MvbTree.BAD_KEY);
            due("bad key, full store", fullStore().put(key, 1), MvbTree.BAD_KEY);
            due("bad key, both full", fullStoreAndHistory().put(key, 1), MvbTree.BAD_KEY);
        }
        due("new key, both full", fullStoreAndHistory().put(5, 1), MvbTree.HISTORY_FULL);
        due("new key, both full after long use", longUsed().put(5, 1), MvbTree.HISTORY_FULL);
    }

    private static void putRefusedChangesNothing() {
        for (Supplier<MvbTree> make : allObjects()) {
            refused("put(1001, 9)", make, x -> x.put(1001, 9), MvbTree.BAD_KEY);
            refused("put(-1001, 9)", make, x -> x.put(-1001, 9), MvbTree.BAD_KEY);
        }
        refused("put(1, 9)", Sentences::fullHistory, x -> x.put(1, 9), MvbTree.HISTORY_FULL);
        refused("put(2, 9)", Sentences::fullHistory, x -> x.put(2, 9), MvbTree.HISTORY_FULL);
        refused("put(0, 9)", Sentences::longUsed, x -> x.put(0, 9), MvbTree.HISTORY_FULL);
        refused("put(5, 9)", Sentences::fullStoreAndHistory, x -> x.put(5, 9), MvbTree.HISTORY_FULL);
        refused("put(-1000, 9)", Sentences::fullStore, x -> x.put(-1000, 9), MvbTree.FULL);
        refused("put(5, 9)", Sentences::fullStore, x -> x.put(5, 9), MvbTree.FULL);
        refused("put(1000, 9)", Sentences::fullStore, x -> x.put(1000, 9), MvbTree.FULL);
    }

    private static void putAnswersNewCurrent() {
        MvbTree x = new MvbTree();
        due("the first put", x.put(0, 0), 1);
        due("current", x.current(), 1);
        x.put(1001, 0);
        due("the put after a refused one", x.put(0, 0), 2);
        due("current", x.current(), 2);
        x.forget(2);
        due("the put after a forget", x.put(0, 0), 3);
        due("current", x.current(), 3);
    }

    // ---- Promise 3: erase

    private static void eraseTakesOneKey() {
        for (int erased = 0; erased < 28; erased++) {
            MvbTree x = fullStore();
            due("erase of one of 28", x.erase(10 * erased), 29);
            due("count", x.count(MIN, MAX, 29), 27);
            due("keyAt(27)", x.keyAt(27, 29), MvbTree.NONE);
            for (int rank = 0; rank < 28; rank++) {
                due("has(" + 10 * rank + ")", x.has(10 * rank, 29), rank != erased);
                due("get(" + 10 * rank + ")", x.get(10 * rank, 29), rank == erased ? 0 : rank + 1);
                due("get before", x.get(10 * rank, 28), rank + 1);
            }
        }
        MvbTree y = historyOf(1);
        due("erase of the only key", y.erase(1), 2);
        due("count", y.count(MIN, MAX, 2), 0);
        due("differ from version 0", y.differ(MIN, MAX, 0, 2), 0);
    }

    private static void eraseBadKey() {
        for (int key : NO_KEYS) {
            due("erase(" + key + ")", shortUsed().erase(key), MvbTree.BAD_KEY);
            due("erase(" + key + ") on a new object", new MvbTree().erase(key), MvbTree.BAD_KEY);
        }
        due("erase(1000)", shortUsed().erase(1000), 6);
        due("erase(-1000)", shortUsed().erase(-1000), MvbTree.NO_KEY);
    }

    private static void eraseNoKey() {
        due("erase from the empty store", new MvbTree().erase(0), MvbTree.NO_KEY);
        due("erase below all keys", fullStore().erase(-1), MvbTree.NO_KEY);
        due("erase between keys", fullStore().erase(5), MvbTree.NO_KEY);
        due("erase above all keys", fullStore().erase(271), MvbTree.NO_KEY);
        due("erase of a key that a kept version has", shortUsed().erase(5), MvbTree.NO_KEY);
        MvbTree x = historyOf(1);
        due("erase", x.erase(1), 2);
        due("erase again", x.erase(1), MvbTree.NO_KEY);
        x.forget(2);
        due("erase of a key that a forgotten version had", x.erase(1), MvbTree.NO_KEY);
    }

    private static void eraseHistoryFull() {
        due("erase at 39", historyOf(39).erase(1), 40);
        due("erase at 40", fullHistory().erase(1), MvbTree.HISTORY_FULL);
        due("erase at 40 after long use", longUsed().erase(0), MvbTree.HISTORY_FULL);
        MvbTree x = fullStoreAndHistory();
        due("erase at 40 with 28 keys", x.erase(0), MvbTree.HISTORY_FULL);
        x.forget(1);
        due("erase at 39 after forget", x.erase(0), 41);
        due("erase at 40 after forget", x.erase(10), MvbTree.HISTORY_FULL);
    }

    private static void eraseTestsInOrder() {
        for (int key : NO_KEYS) {
            due("bad key, full history", fullHistory().erase(key), MvbTree.BAD_KEY);
            due("bad key, which the store lacks", shortUsed().erase(key), MvbTree.BAD_KEY);
        }
        due("lacking key, full history", fullHistory().erase(2), MvbTree.NO_KEY);
        due("lacking key, both full", fullStoreAndHistory().erase(5), MvbTree.NO_KEY);
        due("lacking key, full after long use", longUsed().erase(5), MvbTree.NO_KEY);
    }

    private static void eraseRefusedChangesNothing() {
        for (Supplier<MvbTree> make : allObjects()) {
            refused("erase(1001)", make, x -> x.erase(1001), MvbTree.BAD_KEY);
            refused("erase(-1001)", make, x -> x.erase(-1001), MvbTree.BAD_KEY);
            refused("erase(-1000)", make, x -> x.erase(-1000), MvbTree.NO_KEY);
            refused("erase(999)", make, x -> x.erase(999), MvbTree.NO_KEY);
        }
        refused("erase(5)", Sentences::shortUsed, x -> x.erase(5), MvbTree.NO_KEY);
        refused("erase(1)", Sentences::fullHistory, x -> x.erase(1), MvbTree.HISTORY_FULL);
        refused("erase(0)", Sentences::fullStoreAndHistory, x -> x.erase(0), MvbTree.HISTORY_FULL);
        refused("erase(270)", Sentences::longUsed, x -> x.erase(270), MvbTree.HISTORY_FULL);
    }

    private static void eraseAnswersNewCurrent() {
        MvbTree x = fullStore();
        due("the first erase", x.erase(0), 29);
        due("current", x.current(), 29);
        x.erase(0);
        due("the erase after a refused one", x.erase(10), 30);
        due("current", x.current(), 30);
        x.forget(30);
        due("the erase after a forget", x.erase(20), 31);
        due("current", x.current(), 31);
    }

    // ---- Promises 4 to 6: forget, current, oldest

    private static void forgetDropsWhatIsBefore() {
        for (int oldest = 60; oldest <= 100; oldest++) {
            MvbTree x = longUsed();
            x.forget(oldest);
            for (int version = 58; version <= 101; version++) {
                boolean isKept = version >= oldest && version <= 100;
                due("has in " + version, x.has(0, version), isKept);
                due("count in " + version, x.count(MIN, MAX, version), isKept ? 28 : MvbTree.BAD_VERSION);
            }
        }
        MvbTree y = fullHistory();
        y.forget(40);
        y.put(1, 41);
        due("a version stays forgotten after a change", y.count(MIN, MAX, 39), MvbTree.BAD_VERSION);
    }

    private static void forgetSetsOldest() {
        for (int version = 60; version <= 100; version++) {
            MvbTree x = longUsed();
            x.forget(version);
            due("oldest after forget(" + version + ")", x.oldest(), version);
            due("current after forget(" + version + ")", x.current(), 100);
        }
        MvbTree y = new MvbTree();
        y.forget(0);
        due("oldest after forget(0) of a new object", y.oldest(), 0);
    }

    private static void forgetBadVersion() {
        for (Supplier<MvbTree> make : allObjects()) {
            for (int version : notKept(make.get())) {
                due("forget(" + version + ")", make.get().forget(version), MvbTree.BAD_VERSION);
            }
        }
        MvbTree x = shortUsed();
        due("forget of a forgotten version", x.forget(1), MvbTree.BAD_VERSION);
        due("forget of version 0", x.forget(0), MvbTree.BAD_VERSION);
        due("forget of a version to come", x.forget(6), MvbTree.BAD_VERSION);
        due("forget of the oldest", x.forget(2), 3);
        due("forget of the current", x.forget(5), 0);
    }

    private static void forgetRefusedChangesNothing() {
        for (Supplier<MvbTree> make : allObjects()) {
            for (int version : notKept(make.get())) {
                refused("forget(" + version + ")", make, x -> x.forget(version), MvbTree.BAD_VERSION);
            }
        }
    }

    private static void forgetAnswersTheSpan() {
        due("forget(0) of a new object", new MvbTree().forget(0), 0);
        for (int version = 0; version <= 40; version++) {
            due("forget(" + version + ") of 40", fullHistory().forget(version), 40 - version);
            due("forget(" + (version + 60) + ") of 100", longUsed().forget(version + 60), 40 - version);
        }
        MvbTree x = fullHistory();
        due("forget(10)", x.forget(10), 30);
        due("forget(10) again", x.forget(10), 30);
        due("forget(11)", x.forget(11), 29);
    }

    private static void forgetLeavesTheRest() {
        for (int oldest = 60; oldest <= 100; oldest += 8) {
            for (int version = oldest; version <= 100; version++) {
                MvbTree x = longUsed();
                x.forget(oldest);
                List<Object> before = lookAt(longUsed(), version);
                due("version " + version + " after forget(" + oldest + ")", lookAt(x, version), before);
            }
        }
        MvbTree y = shortUsed();
        y.forget(4);
        due("differ of kept versions", y.differ(MIN, MAX, 4, 5), 1);
    }

    private static void currentMovesWithChangesAlone() {
        MvbTree x = historyOf(39);
        due("current after 39 puts", x.current(), 39);
        x.erase(1);
        due("current after an erase", x.current(), 40);
        x.put(1, 1);
        x.erase(1);
        x.put(1001, 1);
        due("current after refused calls", x.current(), 40);
        x.forget(7);
        due("current after a forget", x.current(), 40);
        x.forget(6);
        due("current after a refused forget", x.current(), 40);
        due("current after long use", longUsed().current(), 100);
    }

    private static void oldestMovesWithForgetAlone() {
        MvbTree x = fullHistory();
        x.put(1, 1);
        x.erase(1);
        due("oldest after 40 changes and refused ones", x.oldest(), 0);
        x.forget(7);
        due("oldest after a forget", x.oldest(), 7);
        x.forget(6);
        x.forget(41);
        due("oldest after refused forgets", x.oldest(), 7);
        x.put(1, 1);
        x.erase(1);
        due("oldest after more changes", x.oldest(), 7);
        due("oldest after long use", longUsed().oldest(), 60);
    }
}
