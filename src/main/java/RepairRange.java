public final class RepairRange {
    public static final int BAD_KEY = -1;
    public static final int BAD_GROUP = -2;
    public static final int BAD_VALUE = -3;
    public static final int FULL = -4;
    public static final int NO_ROW = -5;
    public static final int NONE = 1000000;

    private static final int KEYS = 6;
    private static final int GROUPS = 8;
    private static final int ALL_GROUPS = (1 << GROUPS) - 1;
    private static final int LEAST_VALUE = -1000;
    private static final int GREATEST_VALUE = 1000;
    private static final int CAPACITY = 14;
    private static final int NO_ID = -1;

    // What can be measured of one repair; each measure is NONE where the repair has no answer.
    private static final int COUNT = 0;
    private static final int SUM = 1;
    private static final int GROUP_COUNT = 2;
    private static final int SPREAD = 3;
    private static final int MIDDLE = 4;
    private static final int MIXED_SUM = 5;

    // Stands in for the group where a measure does not depend on one.
    private static final int ANY_GROUP = -1;

    private final boolean[] taken = new boolean[CAPACITY];
    private final int[] keys = new int[CAPACITY];
    private final int[] groups = new int[CAPACITY];
    private final int[] values = new int[CAPACITY];

    // Not part of the table: the repair being looked at, as the id of its row for each key or NO_ID.
    // A method can make no array, so it stands here; every question fills it before reading it.
    private final int[] chosen = new int[KEYS];

    public RepairRange() {
    }

    public int add(int key, int group, int value) {
        if (key < 0 || key >= KEYS) {
            return BAD_KEY;
        }
        if (!isGroup(group)) {
            return BAD_GROUP;
        }
        if (value < LEAST_VALUE || value > GREATEST_VALUE) {
            return BAD_VALUE;
        }
        int id = smallestFreeId();
        if (id == NO_ID) {
            return FULL;
        }
        taken[id] = true;
        keys[id] = key;
        groups[id] = group;
        values[id] = value;
        return id;
    }

    public int remove(int id) {
        if (id < 0 || id >= CAPACITY || !taken[id]) {
            return NO_ROW;
        }
        taken[id] = false;
        return rowCount();
    }

    public int repairs() {
        int product = 1;
        for (int key = 0; key < KEYS; key++) {
            int rows = rowsOfKey(key);
            if (rows > 0) {
                product *= rows;
            }
        }
        return product;
    }

    public int countLeast(int group) {
        return isGroup(group) ? leastOver(COUNT, group) : NONE;
    }

    public int countMost(int group) {
        return isGroup(group) ? mostOver(COUNT, group) : NONE;
    }

    public int sumLeast(int group) {
        return isGroup(group) ? leastOver(SUM, group) : NONE;
    }

    public int sumMost(int group) {
        return isGroup(group) ? mostOver(SUM, group) : NONE;
    }

    public int groupsLeast() {
        return leastOver(GROUP_COUNT, ANY_GROUP);
    }

    public int groupsMost() {
        return mostOver(GROUP_COUNT, ANY_GROUP);
    }

    public int spreadLeast() {
        return leastOver(SPREAD, ANY_GROUP);
    }

    public int middleMost() {
        return mostOver(MIDDLE, ANY_GROUP);
    }

    public int mixedMost() {
        return mostOver(MIXED_SUM, ANY_GROUP);
    }

    public boolean exactly(int mask) {
        int wanted = mask & ALL_GROUPS;
        int total = repairs();
        for (int repair = 0; repair < total; repair++) {
            choose(repair);
            if (chosenGroupSet() == wanted) {
                return true;
            }
        }
        return false;
    }

    private static boolean isGroup(int group) {
        return group >= 0 && group < GROUPS;
    }

    private int smallestFreeId() {
        for (int id = 0; id < CAPACITY; id++) {
            if (!taken[id]) {
                return id;
            }
        }
        return NO_ID;
    }

    private int rowCount() {
        int rows = 0;
        for (int id = 0; id < CAPACITY; id++) {
            if (taken[id]) {
                rows++;
            }
        }
        return rows;
    }

    private int rowsOfKey(int key) {
        int rows = 0;
        for (int id = 0; id < CAPACITY; id++) {
            if (taken[id] && keys[id] == key) {
                rows++;
            }
        }
        return rows;
    }

    // The place counts the rows of this key alone, from 0, in the order of their ids.
    private int rowOfKeyAt(int key, int place) {
        int passed = 0;
        for (int id = 0; id < CAPACITY; id++) {
            if (taken[id] && keys[id] == key) {
                if (passed == place) {
                    return id;
                }
                passed++;
            }
        }
        return NO_ID;
    }

    // Reads the repair's number as one digit for each key, the base being the key's number of rows:
    // the numbers from 0 below repairs() meet every repair once.
    private void choose(int repair) {
        int rest = repair;
        for (int key = 0; key < KEYS; key++) {
            chosen[key] = NO_ID;
            int rows = rowsOfKey(key);
            if (rows > 0) {
                chosen[key] = rowOfKeyAt(key, rest % rows);
                rest /= rows;
            }
        }
    }

    // Every real measure is less than NONE, so NONE serves as the start and is passed over of itself.
    private int leastOver(int measure, int group) {
        int total = repairs();
        int least = NONE;
        for (int repair = 0; repair < total; repair++) {
            choose(repair);
            int answer = measureChosen(measure, group);
            if (answer < least) {
                least = answer;
            }
        }
        return least;
    }

    private int mostOver(int measure, int group) {
        int total = repairs();
        int most = NONE;
        for (int repair = 0; repair < total; repair++) {
            choose(repair);
            int answer = measureChosen(measure, group);
            if (answer != NONE && (most == NONE || answer > most)) {
                most = answer;
            }
        }
        return most;
    }

    private int measureChosen(int measure, int group) {
        switch (measure) {
            case COUNT:
                return chosenCount(group);
            case SUM:
                return chosenSum(group);
            case GROUP_COUNT:
                return chosenGroupCount();
            case SPREAD:
                return chosenSpread();
            case MIDDLE:
                return chosenMiddle();
            case MIXED_SUM:
                return chosenMixedSum();
            default:
                return NONE;
        }
    }

    private boolean isRowOf(int id, int group) {
        return id >= 0 && (group == ANY_GROUP || groups[id] == group);
    }

    private int chosenCount(int group) {
        int count = 0;
        for (int key = 0; key < KEYS; key++) {
            int id = chosen[key];
            if (isRowOf(id, group)) {
                count++;
            }
        }
        return count;
    }

    private int chosenSum(int group) {
        int sum = 0;
        for (int key = 0; key < KEYS; key++) {
            int id = chosen[key];
            if (isRowOf(id, group)) {
                sum += values[id];
            }
        }
        return sum;
    }

    private int chosenGroupSet() {
        int set = 0;
        for (int key = 0; key < KEYS; key++) {
            int id = chosen[key];
            if (id >= 0) {
                set |= 1 << groups[id];
            }
        }
        return set;
    }

    private int chosenGroupCount() {
        int set = chosenGroupSet();
        int count = 0;
        for (int group = 0; group < GROUPS; group++) {
            count += (set >> group) & 1;
        }
        return count;
    }

    private int chosenSpread() {
        int least = NONE;
        int greatest = -NONE;
        for (int key = 0; key < KEYS; key++) {
            int id = chosen[key];
            if (id >= 0) {
                least = values[id] < least ? values[id] : least;
                greatest = values[id] > greatest ? values[id] : greatest;
            }
        }
        return least == NONE ? NONE : greatest - least;
    }

    private int chosenMiddle() {
        int middle = (chosenCount(ANY_GROUP) - 1) / 2;
        for (int key = 0; key < KEYS; key++) {
            int id = chosen[key];
            if (id >= 0 && chosenPlace(key) == middle) {
                return values[id];
            }
        }
        return NONE;
    }

    // Where the row of this key stands in the repair's values in ascending order. Among equal values
    // the smaller key comes first, so that every place is held by just one row.
    private int chosenPlace(int key) {
        int id = chosen[key];
        int place = 0;
        for (int other = 0; other < KEYS; other++) {
            int otherId = chosen[other];
            if (id >= 0 && otherId >= 0) {
                boolean less = values[otherId] < values[id];
                boolean equalAhead = values[otherId] == values[id] && other < key;
                if (less || equalAhead) {
                    place++;
                }
            }
        }
        return place;
    }

    private int chosenMixedSum() {
        int rows = chosenCount(ANY_GROUP);
        if (rows == 0 || chosenGroupCount() != rows) {
            return NONE;
        }
        return chosenSum(ANY_GROUP);
    }
}
