/** Promises 1 to 3: a new object, add and remove. */
public final class TableTest {
    private static final Checks checks = new Checks();
    private static final int[] FAR = {Integer.MIN_VALUE, Integer.MIN_VALUE + 1, Integer.MAX_VALUE};

    public static void main(String[] args) {
        newObject();
        objectsAreApart();
        addAnswersSmallestFreeId();
        addRefusesWrongArguments();
        addTestsInOrder();
        addKeepsEdges();
        addRefusesFifteenthRow();
        refusedAddChangesNothing();
        removeAnswersRowsLeft();
        removeRefusesUnknownIds();
        removedRowIsGone();
        checks.end();
    }

    private static RepairRange full() {
        RepairRange table = new RepairRange();
        for (int id = 0; id < 14; id++) {
            checks.due("add of row " + id, table.add(id % 5, id % 8, id * 10), id);
        }
        return table;
    }

    private static void newObject() {
        RepairRange table = new RepairRange();
        checks.due("new: repairs", table.repairs(), 1);
        for (int group = 0; group < 8; group++) {
            checks.due("new: countLeast " + group, table.countLeast(group), 0);
            checks.due("new: countMost " + group, table.countMost(group), 0);
            checks.due("new: sumLeast " + group, table.sumLeast(group), 0);
            checks.due("new: sumMost " + group, table.sumMost(group), 0);
        }
        checks.due("new: groupsLeast", table.groupsLeast(), 0);
        checks.due("new: groupsMost", table.groupsMost(), 0);
        checks.due("new: spreadLeast", table.spreadLeast(), RepairRange.NONE);
        checks.due("new: middleMost", table.middleMost(), RepairRange.NONE);
        checks.due("new: mixedMost", table.mixedMost(), RepairRange.NONE);
        checks.due("new: exactly no group", table.exactly(0), true);
        checks.due("new: exactly group 0", table.exactly(1), false);
        for (int id = 0; id < 14; id++) {
            checks.due("new: remove " + id, table.remove(id), RepairRange.NO_ROW);
        }
    }

    private static void objectsAreApart() {
        RepairRange one = new RepairRange();
        RepairRange other = new RepairRange();
        checks.due("one: add", one.add(0, 0, 5), 0);
        checks.due("one: add", one.add(0, 1, 6), 1);
        checks.due("other: repairs", other.repairs(), 1);
        checks.due("other: remove", other.remove(0), RepairRange.NO_ROW);
        checks.due("other: add", other.add(3, 3, 3), 0);
        checks.due("one: repairs", one.repairs(), 2);
        checks.due("one: middleMost", one.middleMost(), 6);
    }

    private static void addAnswersSmallestFreeId() {
        RepairRange table = full();
        checks.due("remove 9", table.remove(9), 13);
        checks.due("remove 0", table.remove(0), 12);
        checks.due("remove 13", table.remove(13), 11);
        checks.due("add after the removals", table.add(1, 1, 1), 0);
        checks.due("add after the removals", table.add(1, 1, 1), 9);
        checks.due("add after the removals", table.add(1, 1, 1), 13);
        checks.due("add after the removals", table.add(1, 1, 1), RepairRange.FULL);
    }

    private static void addRefusesWrongArguments() {
        RepairRange table = new RepairRange();
        for (int far : FAR) {
            checks.due("add key " + far, table.add(far, 0, 0), RepairRange.BAD_KEY);
            checks.due("add group " + far, table.add(0, far, 0), RepairRange.BAD_GROUP);
            checks.due("add value " + far, table.add(0, 0, far), RepairRange.BAD_VALUE);
        }
        checks.due("add key -1", table.add(-1, 0, 0), RepairRange.BAD_KEY);
        checks.due("add key 6", table.add(6, 0, 0), RepairRange.BAD_KEY);
        checks.due("add group -1", table.add(0, -1, 0), RepairRange.BAD_GROUP);
        checks.due("add group 8", table.add(0, 8, 0), RepairRange.BAD_GROUP);
        checks.due("add value -1001", table.add(0, 0, -1001), RepairRange.BAD_VALUE);
        checks.due("add value 1001", table.add(0, 0, 1001), RepairRange.BAD_VALUE);
        checks.due("spreadLeast after refusals", table.spreadLeast(), RepairRange.NONE);
        checks.due("add after refusals", table.add(0, 0, 0), 0);
    }

    private static void addTestsInOrder() {
        RepairRange[] tables = {new RepairRange(), full()};
        for (RepairRange table : tables) {
            checks.due("all wrong", table.add(6, 8, 1001), RepairRange.BAD_KEY);
            checks.due("key and group wrong", table.add(-1, -1, 0), RepairRange.BAD_KEY);
            checks.due("key and value wrong", table.add(-1, 0, -1001), RepairRange.BAD_KEY);
            checks.due("key wrong", table.add(6, 0, 0), RepairRange.BAD_KEY);
            checks.due("group and value wrong", table.add(0, 8, 1001), RepairRange.BAD_GROUP);
            checks.due("group wrong", table.add(0, -1, 0), RepairRange.BAD_GROUP);
            checks.due("value wrong", table.add(0, 0, 1001), RepairRange.BAD_VALUE);
        }
        checks.due("full, nothing wrong", tables[1].add(0, 0, 0), RepairRange.FULL);
    }

    private static void addKeepsEdges() {
        RepairRange table = new RepairRange();
        checks.due("add least of all", table.add(0, 0, -1000), 0);
        checks.due("add greatest of all", table.add(5, 7, 1000), 1);
        checks.due("edges: repairs", table.repairs(), 1);
        checks.due("edges: spreadLeast", table.spreadLeast(), 2000);
        checks.due("edges: sumLeast 0", table.sumLeast(0), -1000);
        checks.due("edges: sumMost 7", table.sumMost(7), 1000);
        checks.due("edges: exactly 0 and 7", table.exactly(129), true);
    }

    private static void addRefusesFifteenthRow() {
        RepairRange table = full();
        checks.due("row fifteen", table.add(5, 7, 1000), RepairRange.FULL);
        checks.due("row fifteen again", table.add(0, 0, 0), RepairRange.FULL);
        checks.due("full: repairs", table.repairs(), 162);
        checks.due("full: remove", table.remove(13), 13);
        checks.due("full: add after remove", table.add(5, 7, 1000), 13);
        checks.due("full: repairs after", table.repairs(), 108);
    }

    private static void refusedAddChangesNothing() {
        RepairRange table = full();
        int spread = table.spreadLeast();
        int middle = table.middleMost();
        int mixed = table.mixedMost();
        table.add(0, 0, 0);
        table.add(5, 0, 0);
        table.add(6, 0, 0);
        table.add(0, 8, 0);
        table.add(0, 0, 1001);
        checks.due("refused: repairs", table.repairs(), 162);
        checks.due("refused: spreadLeast", table.spreadLeast(), spread);
        checks.due("refused: middleMost", table.middleMost(), middle);
        checks.due("refused: mixedMost", table.mixedMost(), mixed);
        for (int left = 13; left >= 0; left--) {
            checks.due("refused: remove " + left, table.remove(left), left);
        }
    }

    private static void removeAnswersRowsLeft() {
        RepairRange table = full();
        for (int id = 0; id < 14; id++) {
            checks.due("remove " + id, table.remove(id), 13 - id);
            checks.due("remove again " + id, table.remove(id), RepairRange.NO_ROW);
        }
        checks.due("emptied: repairs", table.repairs(), 1);
        checks.due("emptied: spreadLeast", table.spreadLeast(), RepairRange.NONE);
        checks.due("emptied: middleMost", table.middleMost(), RepairRange.NONE);
        checks.due("emptied: mixedMost", table.mixedMost(), RepairRange.NONE);
        checks.due("emptied: exactly no group", table.exactly(0), true);
        checks.due("emptied: add", table.add(0, 0, 0), 0);
    }

    private static void removeRefusesUnknownIds() {
        RepairRange table = full();
        checks.due("remove -1", table.remove(-1), RepairRange.NO_ROW);
        checks.due("remove 14", table.remove(14), RepairRange.NO_ROW);
        for (int far : FAR) {
            checks.due("remove " + far, table.remove(far), RepairRange.NO_ROW);
        }
        checks.due("repairs after refused removes", table.repairs(), 162);
        checks.due("remove after refused removes", table.remove(0), 13);
    }

    private static void removedRowIsGone() {
        RepairRange table = new RepairRange();
        table.add(2, 3, 40);
        table.add(2, 4, 50);
        table.add(1, 5, 60);
        checks.due("before: repairs", table.repairs(), 2);
        checks.due("remove the middle row", table.remove(1), 2);
        checks.due("after: repairs", table.repairs(), 1);
        checks.due("after: countMost 4", table.countMost(4), 0);
        checks.due("after: exactly 3 and 5", table.exactly(8 + 32), true);
        checks.due("after: exactly 4 and 5", table.exactly(16 + 32), false);
        checks.due("add takes its id", table.add(1, 6, 70), 1);
        checks.due("new row counts", table.countMost(6), 1);
        checks.due("new row counts", table.middleMost(), 40);
    }
}
