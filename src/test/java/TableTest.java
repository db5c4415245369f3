/** Promises 1 to 3 in ordinary use: rows come and go. */
public final class TableTest {
    private static final Checks checks = new Checks();

    public static void main(String[] args) {
        rowsComeIn();
        freeIdsAreTakenAgain();
        removedRowIsGone();
        checks.end();
    }

    private static void rowsComeIn() {
        RepairRange table = new RepairRange();
        checks.due("new: repairs", table.repairs(), 1);
        checks.due("first add", table.add(2, 3, 40), 0);
        checks.due("with one row: middleMost", table.middleMost(), 40);
        checks.due("second add", table.add(2, 4, 50), 1);
        checks.due("with two rows: repairs", table.repairs(), 2);
        checks.due("with two rows: middleMost", table.middleMost(), 50);
        checks.due("third add", table.add(1, 5, 60), 2);
        checks.due("with three rows: repairs", table.repairs(), 2);
        checks.due("with three rows: mixedMost", table.mixedMost(), 110);
    }

    private static void freeIdsAreTakenAgain() {
        RepairRange table = Tables.full();
        checks.due("remove 9", table.remove(9), 13);
        checks.due("remove 0", table.remove(0), 12);
        checks.due("remove 13", table.remove(13), 11);
        checks.due("add after the removals", table.add(1, 1, 1), 0);
        checks.due("add after the removals", table.add(1, 1, 1), 9);
        checks.due("add after the removals", table.add(1, 1, 1), 13);
        checks.due("add after the removals", table.add(1, 1, 1), RepairRange.FULL);
    }

    private static void removedRowIsGone() {
        RepairRange table = Tables.of(2, 3, 40, 2, 4, 50, 1, 5, 60);
        checks.due("before: repairs", table.repairs(), 2);
        checks.due("remove the middle row", table.remove(1), 2);
        checks.due("after: repairs", table.repairs(), 1);
        checks.due("after: countMost 4", table.countMost(4), 0);
        checks.due("after: exactly 3 and 5", table.exactly(8 + 32), true);
        checks.due("after: exactly 4 and 5", table.exactly(16 + 32), false);
        checks.due("add takes its id", table.add(1, 6, 70), 1);
        checks.due("new row: countMost 6", table.countMost(6), 1);
        checks.due("new row: middleMost", table.middleMost(), 40);
    }
}
