import java.util.function.Supplier;

// Each sentence of promises 7 to 14 that names a boundary case, with a test of its own.
public final class AsksTest extends Sentences {
    public static void main(String[] args) {
        check("7: whether the version is kept", AsksTest::hasInVersionsNotKept);
        check("7: .. and has the key", AsksTest::hasTheKey);
        check("8: 0 if the version isn't kept", AsksTest::getInVersionsNotKept);
        check("8: .. or lacks the key", AsksTest::getLackingKey);
        check("9: from lo to hi, both counted in", AsksTest::countBothEnds);
        check("9: 0 if lo > hi", AsksTest::countEmptyRange);
        check("9: lo and hi any ints", AsksTest::countAnyInts);
        check("9: version not kept: BAD_VERSION", AsksTest::countInVersionsNotKept);
        check("9: .. with lo > hi too", AsksTest::countEmptyRangeInVersionsNotKept);
        check("10: the sum (wrapping)", AsksTest::sumWraps);
        check("10: under those keys", AsksTest::sumBothEnds);
        check("10: 0 if there are none", AsksTest::sumOfNone);
        check("10: .. or the version isn't kept", AsksTest::sumInVersionsNotKept);
        check("11: the smallest key greater than 'key'", AsksTest::nextIsGreater);
        check("11: any int", AsksTest::nextOfAnyInt);
        check("11: NONE if there is none", AsksTest::nextOfTheLast);
        check("11: .. or the version isn't kept", AsksTest::nextInVersionsNotKept);
        check("12: has exactly i smaller keys", AsksTest::keyAtCountsSmallerKeys);
        check("12: NONE if there is none", AsksTest::keyAtOutside);
        check("12: .. or the version isn't kept", AsksTest::keyAtInVersionsNotKept);
        check("13: for how many keys from lo to hi", AsksTest::differBothEnds);
        check("13: one has the key and the other lacks it", AsksTest::differOneLacksTheKey);
        check("13: .. or both have it with different values", AsksTest::differInValues);
        check("13: one of the versions isn't kept: BAD_VERSION", AsksTest::differInVersionsNotKept);
        check("13: .. with lo > hi too", AsksTest::differEmptyRangeInVersionsNotKept);
        check("13: 0 if lo > hi", AsksTest::differEmptyRange);
        check("14: the first kept version", AsksTest::sinceIsKept);
        check("14: up to and including the current one", AsksTest::sinceTheCurrent);
        check("14: every version has the key", AsksTest::sinceAGap);
        check("14: .. with one and the same value", AsksTest::sinceAnotherValue);
        check("14: NO_KEY if the current version lacks the key", AsksTest::sinceNoKey);
        end();
    }

    // ---- Promises 7 and 8: has, get

    private static void hasInVersionsNotKept() {
        for (Supplier<MvbTree> make : allObjects()) {
            MvbTree x = make.get();
            for (int version : notKept(x)) {
                for (int key : new int[] {0, 1, 5, -3, 270, 1000}) {
                    due("has(" + key + ", " + version + ")", x.has(key, version), false);
                }
            }
        }
    }

    private static void hasTheKey() {
        MvbTree x = fullStore();
        for (int key = -5; key <= 275; key += 5) {
            due("has(" + key + ", 28)", x.has(key, 28), key % 10 == 0 && key >= 0);
        }
        for (int key : NO_KEYS) {
            due("has(" + key + ", 28)", x.has(key, 28), false);
        }
        MvbTree y = shortUsed();
        due("has(5, 3)", y.has(5, 3), true);
        due("has(5, 4), erased there", y.has(5, 4), false);
        due("has(1000, 4), put after it", y.has(1000, 4), false);
        due("has(1000, 5)", y.has(1000, 5), true);
        y.put(0, 0);
        due("has of a key with value 0", y.has(0, 6), true);
    }

    private static void getInVersionsNotKept() {
        for (Supplier<MvbTree> make : allObjects()) {
            MvbTree x = make.get();
            for (int version : notKept(x)) {
                for (int key : new int[] {0, 1, 5, -3, 270, 1000}) {
                    due("get(" + key + ", " + version + ")", x.get(key, version), 0);
                }
            }
        }
    }

    private static void getLackingKey() {
        MvbTree x = fullStore();
        for (int key = -5; key <= 275; key += 5) {
            boolean isThere = key % 10 == 0 && key >= 0;
            due("get(" + key + ", 28)", x.get(key, 28), isThere ? key / 10 + 1 : 0);
        }
        for (int key : NO_KEYS) {
            due("get(" + key + ", 28)", x.get(key, 28), 0);
        }
        MvbTree y = shortUsed();
        due("get(5, 3)", y.get(5, 3), 51);
        due("get(5, 4), erased there", y.get(5, 4), 0);
        due("get(1000, 4), put after it", y.get(1000, 4), 0);
        due("get in the empty store", new MvbTree().get(0, 0), 0);
    }

    // ---- Promises 9 and 10: count, sum

    private static void countBothEnds() {
        MvbTree x = fullStore();
        due("all", x.count(0, 270, 28), 28);
        due("without the first", x.count(1, 270, 28), 27);
        due("without the last", x.count(0, 269, 28), 27);
        due("the first alone", x.count(0, 0, 28), 1);
        due("the last alone", x.count(270, 270, 28), 1);
        due("two", x.count(100, 110, 28), 2);
        due("between two", x.count(101, 109, 28), 0);
        MvbTree y = new MvbTree();
        y.put(-1000, 1);
        y.put(1000, 1);
        due("the least and the greatest key", y.count(-1000, 1000, 2), 2);
        due("neither", y.count(-999, 999, 2), 0);
    }

    private static void countEmptyRange() {
        MvbTree x = fullStore();
        due("count(1, 0)", x.count(1, 0, 28), 0);
        due("count(11, 10)", x.count(11, 10, 28), 0);
        due("count(10, 9)", x.count(10, 9, 28), 0);
        due("count(270, 0)", x.count(270, 0, 28), 0);
        due("count(MAX, MIN)", x.count(MAX, MIN, 28), 0);
        due("count(1000, -1000)", x.count(1000, -1000, 28), 0);
        due("in the empty store", new MvbTree().count(1, 0, 0), 0);
    }

    private static void countAnyInts() {
        MvbTree x = fullStore();
        due("count(MIN, MAX)", x.count(MIN, MAX, 28), 28);
        due("count(MIN, 0)", x.count(MIN, 0, 28), 1);
        due("count(270, MAX)", x.count(270, MAX, 28), 1);
        due("count(MIN, -1001)", x.count(MIN, -1001, 28), 0);
        due("count(1001, MAX)", x.count(1001, MAX, 28), 0);
        due("count(MIN, MIN)", x.count(MIN, MIN, 28), 0);
        due("count(MAX, MAX)", x.count(MAX, MAX, 28), 0);
        due("count(-1001, 1001)", x.count(-1001, 1001, 28), 28);
    }

    private static void countInVersionsNotKept() {
        for (Supplier<MvbTree> make : allObjects()) {
            MvbTree x = make.get();
            for (int version : notKept(x)) {
                due("count in " + version, x.count(MIN, MAX, version), MvbTree.BAD_VERSION);
                due("count of one key in " + version, x.count(0, 0, version), MvbTree.BAD_VERSION);
            }
        }
    }

    private static void countEmptyRangeInVersionsNotKept() {
        for (Supplier<MvbTree> make : allObjects()) {
            MvbTree x = make.get();
            for (int version : notKept(x)) {
                due("count(1, 0, " + version + ")", x.count(1, 0, version), MvbTree.BAD_VERSION);
                due("count(MAX, MIN, " + version + ")", x.count(MAX, MIN, version), MvbTree.BAD_VERSION);
            }
        }
    }

    private static void sumWraps() {
        MvbTree x = new MvbTree();
        x.put(1, MAX);
        x.put(2, 1);
        due("MAX + 1", x.sum(1, 2, 2), MIN);
        x.put(2, MAX);
        due("MAX + MAX", x.sum(1, 2, 3), -2);
        x.put(1, MIN);
        due("MIN + MAX", x.sum(1, 2, 4), -1);
        x.put(2, MIN);
        due("MIN + MIN", x.sum(1, 2, 5), 0);
        x.put(2, -1);
        due("MIN - 1", x.sum(1, 2, 6), MAX);
        MvbTree y = new MvbTree();
        for (int key = 1; key <= 28; key++) {
            y.put(key, MAX);
        }
        due("28 times MAX", y.sum(MIN, MAX, 28), -28);
    }

    private static void sumBothEnds() {
        MvbTree x = fullStore();
        due("all", x.sum(0, 270, 28), 406);
        due("without the first", x.sum(1, 270, 28), 405);
        due("without the last", x.sum(0, 269, 28), 378);
        due("the first alone", x.sum(0, 0, 28), 1);
        due("the last alone", x.sum(270, 270, 28), 28);
        due("sum(MIN, MAX)", x.sum(MIN, MAX, 28), 406);
        due("sum(MIN, 0)", x.sum(MIN, 0, 28), 1);
        due("sum(270, MAX)", x.sum(270, MAX, 28), 28);
        MvbTree y = new MvbTree();
        y.put(-1000, 3);
        y.put(1000, 4);
        due("the least and the greatest key", y.sum(-1000, 1000, 2), 7);
    }

    private static void sumOfNone() {
        MvbTree x = fullStore();
        due("between two", x.sum(101, 109, 28), 0);
        due("lo > hi", x.sum(110, 100, 28), 0);
        due("lo > hi by one", x.sum(11, 10, 28), 0);
        due("sum(MAX, MIN)", x.sum(MAX, MIN, 28), 0);
        due("below all keys", x.sum(MIN, -1, 28), 0);
        due("above all keys", x.sum(271, MAX, 28), 0);
        due("in the empty store", new MvbTree().sum(MIN, MAX, 0), 0);
    }

    private static void sumInVersionsNotKept() {
        for (Supplier<MvbTree> make : allObjects()) {
            MvbTree x = make.get();
            for (int version : notKept(x)) {
                due("sum in " + version, x.sum(MIN, MAX, version), 0);
                due("sum of none in " + version, x.sum(1, 0, version), 0);
            }
        }
    }

    // ---- Promises 11 and 12: next, keyAt

    private static void nextIsGreater() {
        MvbTree x = fullStore();
        for (int rank = 0; rank < 27; rank++) {
            due("next at a key", x.next(10 * rank, 28), 10 * rank + 10);
            due("next after a key", x.next(10 * rank + 1, 28), 10 * rank + 10);
            due("next before a key", x.next(10 * rank - 1, 28), 10 * rank);
        }
        MvbTree y = new MvbTree();
        y.put(-1000, 1);
        y.put(1000, 1);
        due("next(-1001)", y.next(-1001, 2), -1000);
        due("next(-1000)", y.next(-1000, 2), 1000);
        due("next(999)", y.next(999, 2), 1000);
    }

    private static void nextOfAnyInt() {
        MvbTree x = fullStore();
        due("next(MIN)", x.next(MIN, 28), 0);
        due("next(MIN + 1)", x.next(MIN + 1, 28), 0);
        due("next(-1001)", x.next(-1001, 28), 0);
        due("next(1001)", x.next(1001, 28), MvbTree.NONE);
        due("next(100000)", x.next(100000, 28), MvbTree.NONE);
        due("next(MAX - 1)", x.next(MAX - 1, 28), MvbTree.NONE);
        due("next(MAX)", x.next(MAX, 28), MvbTree.NONE);
    }

    private static void nextOfTheLast() {
        due("next before the last", fullStore().next(269, 28), 270);
        due("next at the last", fullStore().next(270, 28), MvbTree.NONE);
        due("next after the last", fullStore().next(271, 28), MvbTree.NONE);
        due("next in the empty store", new MvbTree().next(MIN, 0), MvbTree.NONE);
        MvbTree x = historyOf(1);
        x.erase(1);
        due("next in a store that is empty again", x.next(MIN, 2), MvbTree.NONE);
        due("next at 1000", shortUsed().next(1000, 5), MvbTree.NONE);
    }

    private static void nextInVersionsNotKept() {
        for (Supplier<MvbTree> make : allObjects()) {
            MvbTree x = make.get();
            for (int version : notKept(x)) {
                due("next(MIN, " + version + ")", x.next(MIN, version), MvbTree.NONE);
                due("next(0, " + version + ")", x.next(0, version), MvbTree.NONE);
            }
        }
    }

    private static void keyAtCountsSmallerKeys() {
        MvbTree x = fullStore();
        for (int i = 0; i < 28; i++) {
            due("keyAt(" + i + ")", x.keyAt(i, 28), 10 * i);
        }
        x.erase(0);
        due("keyAt(0) after an erase of the first", x.keyAt(0, 29), 10);
        due("keyAt(26) after an erase of the first", x.keyAt(26, 29), 270);
        x.put(-1000, 1);
        due("keyAt(0) after a put below all", x.keyAt(0, 30), -1000);
        due("keyAt(27) after a put below all", x.keyAt(27, 30), 270);
        due("keyAt(0) before", x.keyAt(0, 28), 0);
    }

    private static void keyAtOutside() {
        MvbTree x = fullStore();
        for (int i : new int[] {MIN, MIN + 1, -28, -1, 28, 29, 56, MAX - 1, MAX}) {
            due("keyAt(" + i + ") of 28 keys", x.keyAt(i, 28), MvbTree.NONE);
        }
        for (int version = 0; version <= 27; version++) {
            due("keyAt of the count in " + version, x.keyAt(version, version), MvbTree.NONE);
        }
        x.erase(270);
        due("keyAt(27) after an erase", x.keyAt(27, 29), MvbTree.NONE);
        due("keyAt(0) in the empty store", new MvbTree().keyAt(0, 0), MvbTree.NONE);
    }

    private static void keyAtInVersionsNotKept() {
        for (Supplier<MvbTree> make : allObjects()) {
            MvbTree x = make.get();
            for (int version : notKept(x)) {
                due("keyAt(0, " + version + ")", x.keyAt(0, version), MvbTree.NONE);
                due("keyAt(-1, " + version + ")", x.keyAt(-1, version), MvbTree.NONE);
            }
        }
    }

    // ---- Promise 13: differ

    // As far apart as two kept versions can be: 28 has keys 0, 10, .. 190, of which 68 has none, 68 has
    // keys 5, 15, .. 195, of which 28 has none, and both have 200, 210, .. 270.
    private static MvbTree exchanged() {
        MvbTree x = fullStore();
        x.forget(28);
        for (int i = 0; i < 20; i++) {
            x.erase(10 * i);
            x.put(10 * i + 5, i);
        }
        return x;
    }

    private static void differBothEnds() {
        MvbTree x = exchanged();
        due("all", x.differ(0, 195, 28, 68), 40);
        due("without the first", x.differ(1, 195, 28, 68), 39);
        due("without the last", x.differ(0, 194, 28, 68), 39);
        due("the first alone", x.differ(0, 0, 28, 68), 1);
        due("the last alone", x.differ(195, 195, 28, 68), 1);
        due("none between", x.differ(1, 4, 28, 68), 0);
        due("from MIN to MAX", x.differ(MIN, MAX, 28, 68), 40);
        due("from MIN to the first", x.differ(MIN, 0, 28, 68), 1);
        due("from the last to MAX", x.differ(195, MAX, 28, 68), 1);
        due("outside", x.differ(196, MAX, 28, 68), 0);
        MvbTree y = new MvbTree();
        y.put(-1000, 1);
        y.put(1000, 1);
        due("the least and the greatest key", y.differ(-1000, 1000, 0, 2), 2);
        due("neither", y.differ(-999, 999, 0, 2), 0);
        y.put(-1000, 2);
        y.put(1000, 2);
        due("both with other values", y.differ(-1000, 1000, 2, 4), 2);
        due("neither with another value", y.differ(-999, 999, 2, 4), 0);
    }

    private static void differOneLacksTheKey() {
        MvbTree x = fullStore();
        for (int version = 0; version <= 28; version++) {
            due("A lacks keys, version " + version, x.differ(MIN, MAX, version, 28), 28 - version);
            due("B lacks keys, version " + version, x.differ(MIN, MAX, 28, version), 28 - version);
        }
        MvbTree y = new MvbTree();
        y.put(3, 0);
        due("value 0 against a lack", y.differ(MIN, MAX, 0, 1), 1);
        due("a lack against value 0", y.differ(MIN, MAX, 1, 0), 1);
        y.erase(3);
        due("both lack it", y.differ(MIN, MAX, 0, 2), 0);
        due("both sides at once", exchanged().differ(MIN, MAX, 28, 68), 40);
        due("both sides at once, turned", exchanged().differ(MIN, MAX, 68, 28), 40);
    }

    private static void differInValues() {
        MvbTree x = longUsed();
        for (int version = 60; version <= 100; version++) {
            int changes = Math.min(100 - version, 28);
            due("A is " + version, x.differ(MIN, MAX, version, 100), changes);
            due("B is " + version, x.differ(MIN, MAX, 100, version), changes);
        }
        MvbTree y = new MvbTree();
        y.put(1, 5);
        y.put(1, 6);
        y.put(1, 5);
        y.put(1, 5);
        due("another value", y.differ(1, 1, 1, 2), 1);
        due("back to the same value", y.differ(1, 1, 1, 3), 0);
        due("the same value put again", y.differ(1, 1, 3, 4), 0);
        due("a version and itself", y.differ(MIN, MAX, 2, 2), 0);
        y.put(1, MIN);
        y.put(1, MAX);
        due("MIN and MAX", y.differ(1, 1, 5, 6), 1);
    }

    private static void differInVersionsNotKept() {
        for (Supplier<MvbTree> make : allObjects()) {
            MvbTree x = make.get();
            for (int version : notKept(x)) {
                due("A is " + version, x.differ(MIN, MAX, version, x.current()), MvbTree.BAD_VERSION);
                due("B is " + version, x.differ(MIN, MAX, x.oldest(), version), MvbTree.BAD_VERSION);
                due("both are " + version, x.differ(MIN, MAX, version, version), MvbTree.BAD_VERSION);
            }
        }
    }

    private static void differEmptyRangeInVersionsNotKept() {
        for (Supplier<MvbTree> make : allObjects()) {
            MvbTree x = make.get();
            for (int version : notKept(x)) {
                due("A is " + version, x.differ(1, 0, version, x.current()), MvbTree.BAD_VERSION);
                due("B is " + version, x.differ(MAX, MIN, x.oldest(), version), MvbTree.BAD_VERSION);
                due("both are " + version, x.differ(1, 0, version, version), MvbTree.BAD_VERSION);
            }
        }
    }

    private static void differEmptyRange() {
        MvbTree x = exchanged();
        due("differ(1, 0)", x.differ(1, 0, 28, 68), 0);
        due("differ(0, -1)", x.differ(0, -1, 28, 68), 0);
        due("differ(195, 0)", x.differ(195, 0, 28, 68), 0);
        due("differ(MAX, MIN)", x.differ(MAX, MIN, 28, 68), 0);
        due("in the empty store", new MvbTree().differ(1, 0, 0, 0), 0);
        MvbTree y = longUsed();
        due("with other values", y.differ(270, 0, 60, 100), 0);
    }

    // ---- Promise 14: since

    private static void sinceIsKept() {
        MvbTree x = shortUsed();
        due("put in the oldest", x.since(-3), 2);
        x.forget(3);
        due("put before the oldest", x.since(-3), 3);
        x.forget(5);
        due("put before the current, which is the oldest", x.since(-3), 5);
        for (int rank = 0; rank < 28; rank++) {
            MvbTree y = longUsed();
            int put = 100 - (100 - rank) % 28;
            due("put in " + put, y.since(10 * rank), put);
            y.forget(90);
            due("put in " + put + ", 90 is the oldest", y.since(10 * rank), Math.max(put, 90));
        }
        MvbTree z = new MvbTree();
        z.put(1, 1);
        for (int version = 2; version <= 40; version++) {
            z.put(2, version);
        }
        due("through 40 versions", z.since(1), 1);
        z.forget(1);
        z.put(2, 41);
        due("through a full history", z.since(1), 1);
        z.forget(2);
        due("through a full history without its first", z.since(1), 2);
    }

    private static void sinceTheCurrent() {
        due("put in the current", shortUsed().since(1000), 5);
        for (int version = 1; version <= 40; version++) {
            due("put in each version", historyOf(version).since(1), version);
        }
        due("put in the current after long use", longUsed().since(10 * (100 % 28)), 100);
    }

    private static void sinceAGap() {
        MvbTree x = new MvbTree();
        x.put(1, 7);
        x.erase(1);
        x.put(1, 7);
        due("the same value after a gap", x.since(1), 3);
        x.put(2, 7);
        due("a change of another key", x.since(1), 3);
        x.put(3, 0);
        due("value 0 after a lack", x.since(3), 5);
        x.erase(3);
        x.put(3, 0);
        due("value 0 after a gap", x.since(3), 7);
    }

    private static void sinceAnotherValue() {
        MvbTree x = new MvbTree();
        x.put(1, 7);
        x.put(1, 7);
        due("the same value put again", x.since(1), 1);
        x.put(1, 8);
        due("another value", x.since(1), 3);
        x.put(1, 7);
        due("an earlier value", x.since(1), 4);
        x.put(1, 0);
        due("value 0", x.since(1), 5);
        x.put(1, MIN);
        x.put(1, MAX);
        due("MAX after MIN", x.since(1), 7);
    }

    private static void sinceNoKey() {
        due("in the empty store", new MvbTree().since(0), MvbTree.NO_KEY);
        due("of a key that kept versions have", shortUsed().since(5), MvbTree.NO_KEY);
        for (int key : NO_KEYS) {
            due("since(" + key + ")", shortUsed().since(key), MvbTree.NO_KEY);
        }
        MvbTree x = fullStore();
        due("below all keys", x.since(-1), MvbTree.NO_KEY);
        due("between keys", x.since(5), MvbTree.NO_KEY);
        due("above all keys", x.since(271), MvbTree.NO_KEY);
        x.erase(0);
        due("of an erased key", x.since(0), MvbTree.NO_KEY);
        due("of the least key, never put", x.since(-1000), MvbTree.NO_KEY);
        due("of the greatest key, never put", x.since(1000), MvbTree.NO_KEY);
    }
}
