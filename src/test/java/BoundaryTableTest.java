import java.util.function.Consumer;

/**
 * The sentences about the table itself that name a boundary case, in the document's order, each with a
 * test of its own: "What it is", "Terms" and promises 1 to 3. No object is used for more than 512 calls.
 */
public final class BoundaryTableTest {
    private static final Checks checks = new Checks();
    private static final int CALLS = 512;
    private static final int CAPACITY = Tables.CAPACITY;
    private static final int LOWEST = Integer.MIN_VALUE;
    private static final int HIGHEST = Integer.MAX_VALUE;

    // Beside the nearest and the farthest ones, numbers that look right once they are cut to 8 or 16 bits.
    private static final int[] WRONG_KEYS = {-1, 6, -2, 7, 256, 65536, -251, LOWEST, LOWEST + 5, HIGHEST};
    private static final int[] WRONG_GROUPS = {-1, 8, -2, 9, 256, 65536, -249, LOWEST, LOWEST + 7, HIGHEST};
    private static final int[] WRONG_VALUES = {-1001, 1001, -1002, 1002, 65536, 66536, LOWEST, HIGHEST};
    private static final int[] WRONG_IDS = {-1, 14, -2, 15, 256, 65536, -243, LOWEST, LOWEST + 13, HIGHEST};

    private static final int[] ROW_COUNTS = {0, 1, 7, 13, 14};

    public static void main(String[] args) {
        upToFourteenRows();
        keysFrom0To5();
        groupsFrom0To7();
        valuesFromMinus1000To1000();
        severalRowsWithTheSameKey();
        the512thCallOfEachKind();
        the512thCallAfterRefusedOnes();

        oneRowForEveryKeyThatOccurs();
        equalRowsAreDifferent();
        emptyTableHasOneRepair();
        questionsChangeNothing();

        newObjectIsEmpty();
        objectsAreApart();

        addTestsTheKeyFirst();
        addTestsTheGroupSecond();
        addTestsTheValueThird();
        addTestsTheRoomLast();
        refusedAddChangesNothing();
        addAnswersTheSmallestFreeId();

        removeRefusesIdsWithoutRow();
        refusedRemoveChangesNothing();
        removeAnswersTheRowsLeft();
        checks.end();
    }

    private static void upToFourteenRows() {
        checks.about("What it is", "up to fourteen ROWS");
        RepairRange table = new RepairRange();
        for (int id = 0; id < CAPACITY; id++) {
            checks.due("add of row " + id, table.add(3, id % 8, 10 * id), id);
            checks.due("repairs with row " + id, table.repairs(), id + 1);
            checks.due("middleMost with row " + id, table.middleMost(), 10 * id);
        }
        checks.due("add of row 14", table.add(3, 0, 500), RepairRange.FULL);
        checks.due("repairs with fourteen rows", table.repairs(), 14);
        checks.due("middleMost with fourteen rows", table.middleMost(), 130);
    }

    private static void keysFrom0To5() {
        checks.about("What it is", "a key (0 to 5)");
        for (int key = 0; key <= 5; key++) {
            for (int other = 0; other <= 5; other++) {
                RepairRange table = Tables.ofKeys(key, other);
                String keys = " with keys " + key + " and " + other;
                checks.due("repairs" + keys, table.repairs(), key == other ? 2 : 1);
                checks.due("countLeast 0" + keys, table.countLeast(0), key == other ? 1 : 2);
            }
        }
        checks.due("countLeast 0 with every key", Tables.ofKeys(0, 1, 2, 3, 4, 5).countLeast(0), 6);
        checks.due("add with key -1", new RepairRange().add(-1, 0, 0), RepairRange.BAD_KEY);
        checks.due("add with key 6", new RepairRange().add(6, 0, 0), RepairRange.BAD_KEY);
    }

    private static void groupsFrom0To7() {
        checks.about("What it is", "a group (0 to 7)");
        for (int group = 0; group <= 7; group++) {
            for (int asked = 0; asked <= 7; asked++) {
                RepairRange table = Tables.of(2, group, 5);
                String groups = " " + asked + " with group " + group;
                checks.due("countLeast" + groups, table.countLeast(asked), group == asked ? 1 : 0);
                checks.due("sumMost" + groups, table.sumMost(asked), group == asked ? 5 : 0);
                checks.due("exactly only" + groups, table.exactly(1 << asked), group == asked);
            }
        }
        checks.due("add with group -1", new RepairRange().add(0, -1, 0), RepairRange.BAD_GROUP);
        checks.due("add with group 8", new RepairRange().add(0, 8, 0), RepairRange.BAD_GROUP);
    }

    private static void valuesFromMinus1000To1000() {
        checks.about("What it is", "a value (-1000 to 1000)");
        for (int value = -1000; value <= 1000; value++) {
            RepairRange table = new RepairRange();
            checks.due("add with value " + value, table.add(0, 0, value), 0);
            checks.due("sumLeast with value " + value, table.sumLeast(0), value);
            checks.due("sumMost with value " + value, table.sumMost(0), value);
            checks.due("middleMost with value " + value, table.middleMost(), value);
            checks.due("mixedMost with value " + value, table.mixedMost(), value);
        }
        checks.due("add with value -1001", new RepairRange().add(0, 0, -1001), RepairRange.BAD_VALUE);
        checks.due("add with value 1001", new RepairRange().add(0, 0, 1001), RepairRange.BAD_VALUE);
    }

    private static void severalRowsWithTheSameKey() {
        checks.about("What it is", "several rows may have the same key");
        for (int key = 0; key <= 5; key++) {
            RepairRange table = new RepairRange();
            for (int id = 0; id < CAPACITY; id++) {
                checks.due("add of row " + id + " with key " + key, table.add(key, 1, -id), id);
            }
            checks.due("repairs with key " + key + " alone", table.repairs(), 14);
            checks.due("countMost with key " + key + " alone", table.countMost(1), 1);
            checks.due("sumLeast with key " + key + " alone", table.sumLeast(1), -13);
        }
    }

    private static void the512thCallOfEachKind() {
        checks.about("What it is", "at most 512 calls after it has been made");
        checks.due("call 512, add", after511Calls().add(5, 7, 1000), 3);
        checks.due("call 512, remove", after511Calls().remove(1), 2);
        checks.due("call 512, repairs", after511Calls().repairs(), 2);
        checks.due("call 512, countLeast", after511Calls().countLeast(1), 1);
        checks.due("call 512, countMost", after511Calls().countMost(1), 2);
        checks.due("call 512, sumLeast", after511Calls().sumLeast(1), -5);
        checks.due("call 512, sumMost", after511Calls().sumMost(1), 15);
        checks.due("call 512, groupsLeast", after511Calls().groupsLeast(), 1);
        checks.due("call 512, groupsMost", after511Calls().groupsMost(), 2);
        checks.due("call 512, spreadLeast", after511Calls().spreadLeast(), 25);
        checks.due("call 512, middleMost", after511Calls().middleMost(), -5);
        checks.due("call 512, mixedMost", after511Calls().mixedMost(), 30);
        checks.due("call 512, exactly", after511Calls().exactly(6), true);
    }

    /** 254 rows come and go, then three stay. */
    private static RepairRange after511Calls() {
        RepairRange table = new RepairRange();
        int calls = 0;
        while (calls < CALLS - 4) {
            checks.due("add as call " + calls, table.add(calls % 6, calls % 8, calls), 0);
            checks.due("remove after call " + calls, table.remove(0), 0);
            calls += 2;
        }
        checks.due("call 509", table.add(0, 1, 20), 0);
        checks.due("call 510", table.add(0, 2, 35), 1);
        checks.due("call 511", table.add(4, 1, -5), 2);
        return table;
    }

    private static void the512thCallAfterRefusedOnes() {
        checks.about("What it is", "at most 512 calls after it has been made");
        RepairRange empty = new RepairRange();
        RepairRange full = Tables.full();
        for (int call = 1; call < CALLS; call++) {
            checks.due("call " + call + " on an empty table", empty.remove(0), RepairRange.NO_ROW);
        }
        for (int call = CAPACITY + 1; call < CALLS; call++) {
            checks.due("call " + call + " on a full table", full.add(0, 0, 0), RepairRange.FULL);
        }
        checks.due("call 512 on an empty table", empty.add(0, 0, 0), 0);
        checks.due("call 512 on a full table", full.repairs(), 162);
    }

    private static void oneRowForEveryKeyThatOccurs() {
        checks.about("Terms", "exactly one row for every key that occurs in the table");
        RepairRange table = Tables.of(0, 0, 5, 5, 0, 7, 5, 0, 9);
        checks.due("countLeast of two keys", table.countLeast(0), 2);
        checks.due("countMost of two keys", table.countMost(0), 2);
        checks.due("remove a row of key 5", table.remove(1), 2);
        checks.due("countLeast while key 5 occurs", table.countLeast(0), 2);
        checks.due("remove the last row of key 5", table.remove(2), 1);
        checks.due("countMost once key 5 is gone", table.countMost(0), 1);
        checks.due("sumMost once key 5 is gone", table.sumMost(0), 5);
    }

    private static void equalRowsAreDifferent() {
        checks.about("Terms", "Rows that are equal in all columns are still different rows.");
        RepairRange table = new RepairRange();
        for (int id = 0; id < CAPACITY; id++) {
            checks.due("add of an equal row", table.add(1, 2, 3), id);
            checks.due("repairs of equal rows", table.repairs(), id + 1);
        }
        checks.due("countMost of equal rows", table.countMost(2), 1);
        checks.due("sumMost of equal rows", table.sumMost(2), 3);
        for (int left = CAPACITY - 1; left > 0; left--) {
            checks.due("remove of an equal row", table.remove(left), left);
            checks.due("repairs of the equal rows left", table.repairs(), left);
        }
        RepairRange pairs = Tables.of(1, 2, 3, 1, 2, 3, 4, 5, 6, 4, 5, 6, 4, 5, 6);
        checks.due("repairs of equal rows under two keys", pairs.repairs(), 6);
    }

    private static void emptyTableHasOneRepair() {
        checks.about("Terms", "The empty table has exactly one repair, without rows.");
        RepairRange[] tables = {new RepairRange(), Tables.emptied()};
        for (RepairRange table : tables) {
            checks.due("repairs", table.repairs(), 1);
            checks.due("groupsLeast", table.groupsLeast(), 0);
            checks.due("groupsMost", table.groupsMost(), 0);
            checks.due("exactly no group", table.exactly(0), true);
            for (int group = 0; group <= 7; group++) {
                checks.due("countLeast " + group, table.countLeast(group), 0);
                checks.due("countMost " + group, table.countMost(group), 0);
                checks.due("sumLeast " + group, table.sumLeast(group), 0);
                checks.due("sumMost " + group, table.sumMost(group), 0);
                checks.due("exactly only " + group, table.exactly(1 << group), false);
            }
        }
    }

    private static void questionsChangeNothing() {
        checks.about("Terms", "The calls below change nothing.");
        changesNothing("repairs", RepairRange::repairs);
        changesNothing("groupsLeast", RepairRange::groupsLeast);
        changesNothing("groupsMost", RepairRange::groupsMost);
        changesNothing("spreadLeast", RepairRange::spreadLeast);
        changesNothing("middleMost", RepairRange::middleMost);
        changesNothing("mixedMost", RepairRange::mixedMost);
        for (int group : new int[] {0, 3, 7, -1, 8, LOWEST, HIGHEST}) {
            changesNothing("countLeast " + group, table -> table.countLeast(group));
            changesNothing("countMost " + group, table -> table.countMost(group));
            changesNothing("sumLeast " + group, table -> table.sumLeast(group));
            changesNothing("sumMost " + group, table -> table.sumMost(group));
        }
        for (int mask : new int[] {0, 1, 128, 255, 256, -1, LOWEST, HIGHEST}) {
            changesNothing("exactly " + mask, table -> table.exactly(mask));
        }
    }

    /** Compares two tables made alike, of which one has had the call: afterwards they must look the same. */
    private static void changesNothing(String what, Consumer<RepairRange> call) {
        for (int rows : ROW_COUNTS) {
            changesNothing(what, rows, call);
        }
    }

    private static void changesNothing(String what, int rows, Consumer<RepairRange> call) {
        RepairRange called = Tables.withRows(rows);
        RepairRange spared = Tables.withRows(rows);
        call.accept(called);
        String due = Tables.everythingOf(spared);
        checks.due("a table of " + rows + " rows after " + what, Tables.everythingOf(called), due);
    }

    private static void newObjectIsEmpty() {
        checks.about("Promise 1", "An empty table.");
        RepairRange table = new RepairRange();
        checks.due("new: repairs", table.repairs(), 1);
        checks.due("new: groupsMost", table.groupsMost(), 0);
        checks.due("new: spreadLeast", table.spreadLeast(), RepairRange.NONE);
        checks.due("new: middleMost", table.middleMost(), RepairRange.NONE);
        checks.due("new: mixedMost", table.mixedMost(), RepairRange.NONE);
        for (int id = 0; id < CAPACITY; id++) {
            checks.due("new: remove " + id, table.remove(id), RepairRange.NO_ROW);
        }
        checks.due("new: add", table.add(0, 0, 0), 0);
        checks.due("new: remove of the only row", table.remove(0), 0);
    }

    private static void objectsAreApart() {
        checks.about("Promise 1", "An empty table, whatever other objects hold.");
        RepairRange full = Tables.full();
        RepairRange other = new RepairRange();
        checks.due("other: repairs", other.repairs(), 1);
        checks.due("other: remove", other.remove(0), RepairRange.NO_ROW);
        checks.due("other: add", other.add(3, 3, 3), 0);
        checks.due("other: middleMost", other.middleMost(), 3);
        checks.due("full: everything", Tables.everythingOf(full), Tables.everythingOf(Tables.full()));
    }

    private static void addTestsTheKeyFirst() {
        checks.about("Promise 2", "key not in 0 to 5: BAD_KEY");
        for (int rows : ROW_COUNTS) {
            for (int key : WRONG_KEYS) {
                RepairRange table = Tables.withRows(rows);
                String what = "add with key " + key + " to " + rows + " rows";
                checks.due(what, table.add(key, 0, 0), RepairRange.BAD_KEY);
                checks.due(what + ", group too", table.add(key, 8, 0), RepairRange.BAD_KEY);
                checks.due(what + ", value too", table.add(key, 7, -1001), RepairRange.BAD_KEY);
                checks.due(what + ", group and value too", table.add(key, -1, 1001), RepairRange.BAD_KEY);
            }
        }
        for (int key = 0; key <= 5; key++) {
            checks.due("add with key " + key, Tables.withRows(13).add(key, 0, 0), 13);
        }
    }

    private static void addTestsTheGroupSecond() {
        checks.about("Promise 2", "group not in 0 to 7: BAD_GROUP");
        for (int rows : ROW_COUNTS) {
            for (int group : WRONG_GROUPS) {
                RepairRange table = Tables.withRows(rows);
                String what = "add with group " + group + " to " + rows + " rows";
                checks.due(what, table.add(0, group, 0), RepairRange.BAD_GROUP);
                checks.due(what + ", value too small", table.add(5, group, -1001), RepairRange.BAD_GROUP);
                checks.due(what + ", value too large", table.add(5, group, 1001), RepairRange.BAD_GROUP);
            }
        }
        for (int group = 0; group <= 7; group++) {
            checks.due("add with group " + group, Tables.withRows(13).add(0, group, 0), 13);
        }
    }

    private static void addTestsTheValueThird() {
        checks.about("Promise 2", "value not in -1000 to 1000: BAD_VALUE");
        for (int rows : ROW_COUNTS) {
            for (int value : WRONG_VALUES) {
                RepairRange table = Tables.withRows(rows);
                String what = "add with value " + value + " to " + rows + " rows";
                checks.due(what, table.add(0, 0, value), RepairRange.BAD_VALUE);
                checks.due(what + ", last key and group", table.add(5, 7, value), RepairRange.BAD_VALUE);
            }
        }
        for (int value : new int[] {-1000, -999, -1, 0, 1, 999, 1000}) {
            checks.due("add with value " + value, Tables.withRows(13).add(0, 0, value), 13);
        }
    }

    private static void addTestsTheRoomLast() {
        checks.about("Promise 2", "the table has 14 rows: FULL");
        for (int rows = 0; rows < CAPACITY; rows++) {
            checks.due("add to " + rows + " rows", Tables.withRows(rows).add(4, 0, 0), rows);
        }
        RepairRange table = Tables.full();
        checks.due("add to 14 rows", table.add(0, 0, -1000), RepairRange.FULL);
        checks.due("add to 14 rows again", table.add(5, 7, 1000), RepairRange.FULL);
        checks.due("remove from 14 rows", table.remove(6), 13);
        checks.due("add to 13 rows", table.add(5, 7, 1000), 6);
        checks.due("add to 14 rows once more", table.add(5, 7, 1000), RepairRange.FULL);
    }

    private static void refusedAddChangesNothing() {
        checks.about("Promise 2", "A refused call changes nothing.");
        for (int key : WRONG_KEYS) {
            changesNothing("add with key " + key, table -> table.add(key, 7, 1000));
        }
        for (int group : WRONG_GROUPS) {
            changesNothing("add with group " + group, table -> table.add(4, group, 1000));
        }
        for (int value : WRONG_VALUES) {
            changesNothing("add with value " + value, table -> table.add(4, 7, value));
        }
        for (int key = 0; key <= 5; key++) {
            int asked = key;
            changesNothing("add of a row too many", CAPACITY, table -> table.add(asked, 7, 1000));
        }
    }

    private static void addAnswersTheSmallestFreeId() {
        checks.about("Promise 2", "the smallest id from 0 that no row has");
        for (int free = 0; free < 1 << CAPACITY; free++) {
            RepairRange table = Tables.full();
            for (int id = 0; id < CAPACITY; id++) {
                if ((free >> id & 1) == 1) {
                    table.remove(id);
                }
            }
            for (int id = 0; id < CAPACITY; id++) {
                if ((free >> id & 1) == 1) {
                    checks.due("add with free ids " + Integer.toBinaryString(free), table.add(4, 0, 0), id);
                }
            }
            checks.due("add with no free id", table.add(4, 0, 0), RepairRange.FULL);
        }
    }

    private static void removeRefusesIdsWithoutRow() {
        checks.about("Promise 3", "No row has this id: NO_ROW");
        for (int rows = 0; rows <= CAPACITY; rows++) {
            RepairRange table = Tables.withRows(rows);
            for (int id : WRONG_IDS) {
                checks.due("remove " + id + " from " + rows + " rows", table.remove(id), RepairRange.NO_ROW);
            }
            for (int id = rows; id < CAPACITY; id++) {
                checks.due("remove " + id + " from " + rows + " rows", table.remove(id), RepairRange.NO_ROW);
            }
        }
        for (int id = 0; id < CAPACITY; id++) {
            RepairRange table = Tables.full();
            checks.due("remove " + id, table.remove(id), 13);
            checks.due("remove " + id + " a second time", table.remove(id), RepairRange.NO_ROW);
        }
    }

    private static void refusedRemoveChangesNothing() {
        checks.about("Promise 3", "NO_ROW, nothing changes");
        for (int id : WRONG_IDS) {
            changesNothing("remove " + id, table -> table.remove(id));
        }
        for (int id = 0; id < CAPACITY; id++) {
            int asked = id;
            changesNothing("remove " + id, id, table -> table.remove(asked));
        }
        RepairRange once = Tables.full();
        RepairRange twice = Tables.full();
        checks.due("remove 5 once", once.remove(5), 13);
        checks.due("remove 5 first", twice.remove(5), 13);
        checks.due("remove 5 again", twice.remove(5), RepairRange.NO_ROW);
        checks.due("a table after a second remove", Tables.everythingOf(twice), Tables.everythingOf(once));
    }

    private static void removeAnswersTheRowsLeft() {
        checks.about("Promise 3", "Else answers how many rows are left.");
        RepairRange upwards = Tables.full();
        RepairRange downwards = Tables.full();
        for (int left = CAPACITY - 1; left >= 0; left--) {
            checks.due("remove upwards", upwards.remove(CAPACITY - 1 - left), left);
            checks.due("remove downwards", downwards.remove(left), left);
        }
        for (int rows = 1; rows <= CAPACITY; rows++) {
            checks.due("remove the first of " + rows, Tables.withRows(rows).remove(0), rows - 1);
            checks.due("remove the last of " + rows, Tables.withRows(rows).remove(rows - 1), rows - 1);
        }
    }
}
