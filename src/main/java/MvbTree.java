/**
 * An ordered store of keys with values that keeps its past.
 *
 * Each kept version is held whole, as a run of cells in rising order of keys.
 * The runs lie in a ring of slots: the history is bounded, so the slot that a
 * new version takes never belongs to a version that is still kept.
 */
public final class MvbTree {
    public static final int BAD_KEY = -1;
    public static final int NO_KEY = -2;
    public static final int HISTORY_FULL = -3;
    public static final int FULL = -4;
    public static final int BAD_VERSION = -5;
    public static final int NONE = 100000;

    private static final int LEAST_KEY = -1000;
    private static final int GREATEST_KEY = 1000;
    private static final int MOST_KEYS = 28;
    private static final int LONGEST_HISTORY = 40;
    private static final int SLOTS = LONGEST_HISTORY + 1;
    private static final int CELLS = SLOTS * MOST_KEYS;
    private static final int ABSENT = -1;

    private final int[] keys = new int[CELLS];
    private final int[] values = new int[CELLS];
    private final int[] sizes = new int[SLOTS];
    private int oldestVersion;
    private int currentVersion;
    private int currentSlot;

    public MvbTree() {
        oldestVersion = 0;
        currentVersion = 0;
        currentSlot = 0;
    }

    public int put(int key, int value) {
        if (!isKey(key)) {
            return BAD_KEY;
        }
        if (isHistoryFull()) {
            return HISTORY_FULL;
        }
        boolean isNew = cellOf(key, currentSlot) == ABSENT;
        if (isNew && sizes[currentSlot] >= MOST_KEYS) {
            return FULL;
        }
        copyToNewVersion();
        if (isNew) {
            insertCell(key, value);
        } else {
            replaceValue(key, value);
        }
        return currentVersion;
    }

    public int erase(int key) {
        if (!isKey(key)) {
            return BAD_KEY;
        }
        if (cellOf(key, currentSlot) == ABSENT) {
            return NO_KEY;
        }
        if (isHistoryFull()) {
            return HISTORY_FULL;
        }
        copyToNewVersion();
        removeCell(key);
        return currentVersion;
    }

    public int forget(int version) {
        if (!isKept(version)) {
            return BAD_VERSION;
        }
        oldestVersion = version;
        return currentVersion - oldestVersion;
    }

    public int current() {
        return currentVersion;
    }

    public int oldest() {
        return oldestVersion;
    }

    public boolean has(int key, int version) {
        if (!isKept(version)) {
            return false;
        }
        int slot = slotOf(version);
        return cellOf(key, slot) != ABSENT;
    }

    public int get(int key, int version) {
        if (!isKept(version)) {
            return 0;
        }
        int slot = slotOf(version);
        int cell = cellOf(key, slot);
        return cell == ABSENT ? 0 : values[cell];
    }

    public int count(int lo, int hi, int version) {
        if (!isKept(version)) {
            return BAD_VERSION;
        }
        int slot = slotOf(version);
        int first = firstCell(slot);
        int found = 0;
        for (int i = 0; i < sizes[slot]; i++) {
            if (isWithin(keys[first + i], lo, hi)) {
                found++;
            }
        }
        return found;
    }

    public int sum(int lo, int hi, int version) {
        if (!isKept(version)) {
            return 0;
        }
        int slot = slotOf(version);
        int first = firstCell(slot);
        int total = 0;
        for (int i = 0; i < sizes[slot]; i++) {
            if (isWithin(keys[first + i], lo, hi)) {
                total += values[first + i];
            }
        }
        return total;
    }

    public int next(int key, int version) {
        if (!isKept(version)) {
            return NONE;
        }
        int slot = slotOf(version);
        int first = firstCell(slot);
        for (int i = 0; i < sizes[slot]; i++) {
            if (keys[first + i] > key) {
                return keys[first + i];
            }
        }
        return NONE;
    }

    public int keyAt(int i, int version) {
        if (!isKept(version)) {
            return NONE;
        }
        int slot = slotOf(version);
        if (i < 0 || i >= sizes[slot]) {
            return NONE;
        }
        int first = firstCell(slot);
        return keys[first + i];
    }

    public int differ(int lo, int hi, int versionA, int versionB) {
        if (!isKept(versionA) || !isKept(versionB)) {
            return BAD_VERSION;
        }
        int slotA = slotOf(versionA);
        int slotB = slotOf(versionB);
        // A key with two values is told by A's side alone, so that it counts once.
        int changedOrLost = countChanged(lo, hi, slotA, slotB);
        int gained = countLacking(lo, hi, slotB, slotA);
        return changedOrLost + gained;
    }

    public int since(int key) {
        int cell = cellOf(key, currentSlot);
        if (cell == ABSENT) {
            return NO_KEY;
        }
        int value = values[cell];
        int age = 0;
        for (int older = 1; older <= currentVersion - oldestVersion; older++) {
            int slot = slotOf(currentVersion - older);
            if (!holds(key, value, slot)) {
                break;
            }
            age = older;
        }
        return currentVersion - age;
    }

    private boolean isKey(int key) {
        return isWithin(key, LEAST_KEY, GREATEST_KEY);
    }

    private boolean isWithin(int number, int lo, int hi) {
        return number >= lo && number <= hi;
    }

    private boolean isKept(int version) {
        return isWithin(version, oldestVersion, currentVersion);
    }

    private boolean isHistoryFull() {
        return currentVersion - oldestVersion >= LONGEST_HISTORY;
    }

    /** For kept versions alone: only they are sure to lie within one turn of the ring. */
    private int slotOf(int version) {
        int slot = currentSlot - (currentVersion - version);
        return slot < 0 ? slot + SLOTS : slot;
    }

    private int firstCell(int slot) {
        return slot * MOST_KEYS;
    }

    private int cellOf(int key, int slot) {
        int first = firstCell(slot);
        for (int i = 0; i < sizes[slot]; i++) {
            if (keys[first + i] == key) {
                return first + i;
            }
        }
        return ABSENT;
    }

    private boolean holds(int key, int value, int slot) {
        int cell = cellOf(key, slot);
        return cell != ABSENT && values[cell] == value;
    }

    private int countChanged(int lo, int hi, int slot, int otherSlot) {
        int first = firstCell(slot);
        int changed = 0;
        for (int i = 0; i < sizes[slot]; i++) {
            int key = keys[first + i];
            if (isWithin(key, lo, hi) && !holds(key, values[first + i], otherSlot)) {
                changed++;
            }
        }
        return changed;
    }

    private int countLacking(int lo, int hi, int slot, int otherSlot) {
        int first = firstCell(slot);
        int lacking = 0;
        for (int i = 0; i < sizes[slot]; i++) {
            int key = keys[first + i];
            if (isWithin(key, lo, hi) && cellOf(key, otherSlot) == ABSENT) {
                lacking++;
            }
        }
        return lacking;
    }

    private void copyToNewVersion() {
        int newSlot = currentSlot + 1 < SLOTS ? currentSlot + 1 : 0;
        int from = firstCell(currentSlot);
        int to = firstCell(newSlot);
        for (int i = 0; i < sizes[currentSlot]; i++) {
            keys[to + i] = keys[from + i];
            values[to + i] = values[from + i];
        }
        sizes[newSlot] = sizes[currentSlot];
        currentSlot = newSlot;
        currentVersion++;
    }

    /** Only while a version is being made that has room and lacks the key. */
    private void insertCell(int key, int value) {
        int first = firstCell(currentSlot);
        int cell = first + sizes[currentSlot];
        // From the top down, so that no cell is overwritten before it has moved.
        while (cell > first && keys[cell - 1] > key) {
            keys[cell] = keys[cell - 1];
            values[cell] = values[cell - 1];
            cell--;
        }
        keys[cell] = key;
        values[cell] = value;
        sizes[currentSlot]++;
    }

    /** Only while a version is being made that has the key. */
    private void replaceValue(int key, int value) {
        int cell = cellOf(key, currentSlot);
        if (cell == ABSENT) {
            return;
        }
        values[cell] = value;
    }

    /** Only while a version is being made that has the key. */
    private void removeCell(int key) {
        int cell = cellOf(key, currentSlot);
        if (cell == ABSENT) {
            return;
        }
        int last = firstCell(currentSlot) + sizes[currentSlot] - 1;
        for (int i = cell; i < last; i++) {
            keys[i] = keys[i + 1];
            values[i] = values[i + 1];
        }
        sizes[currentSlot]--;
    }
}
