/** Promises 4 to 14: every question on tables whose answers are worked out by hand. */
public final class QuestionsTest {
    private static final Checks checks = new Checks();
    private static final int NONE = RepairRange.NONE;

    public static void main(String[] args) {
        repairs();
        counts();
        sums();
        groups();
        spread();
        middle();
        mixed();
        exactly();
        wrongGroups();
        equalRowsAreDifferent();
        checks.end();
    }

    /** Each three numbers are the key, the group and the value of one row. */
    private static RepairRange table(int... rows) {
        RepairRange table = new RepairRange();
        for (int at = 0; at < rows.length; at += 3) {
            checks.due("add", table.add(rows[at], rows[at + 1], rows[at + 2]), at / 3);
        }
        return table;
    }

    private static RepairRange tableOfKeys(int... keys) {
        RepairRange table = new RepairRange();
        for (int key : keys) {
            table.add(key, 0, 0);
        }
        return table;
    }

    private static void repairs() {
        checks.due("repairs, one row", tableOfKeys(5).repairs(), 1);
        checks.due("repairs, one key", tableOfKeys(3, 3, 3).repairs(), 3);
        checks.due("repairs, six keys", tableOfKeys(0, 1, 2, 3, 4, 5).repairs(), 1);
        checks.due("repairs, 2 and 3", tableOfKeys(0, 5, 0, 5, 5).repairs(), 6);
        checks.due("repairs, one key, full",
            tableOfKeys(2, 2, 2, 2, 2, 2, 2, 2, 2, 2, 2, 2, 2, 2).repairs(), 14);
        checks.due("repairs, the most",
            tableOfKeys(0, 0, 0, 1, 1, 1, 3, 3, 3, 4, 4, 4, 5, 5).repairs(), 162);
        checks.due("repairs, six keys, full",
            tableOfKeys(0, 0, 0, 1, 1, 1, 2, 2, 3, 3, 4, 4, 5, 5).repairs(), 144);
    }

    private static void counts() {
        // Key 0 must give group 1, key 1 may, key 2 cannot.
        RepairRange table = table(0, 1, 5, 0, 1, 6, 1, 1, 7, 1, 2, 8, 2, 3, 9);
        checks.due("countLeast 1", table.countLeast(1), 1);
        checks.due("countMost 1", table.countMost(1), 2);
        checks.due("countLeast 2", table.countLeast(2), 0);
        checks.due("countMost 2", table.countMost(2), 1);
        checks.due("countLeast 3", table.countLeast(3), 1);
        checks.due("countMost 3", table.countMost(3), 1);
        checks.due("countLeast 0", table.countLeast(0), 0);
        checks.due("countMost 0", table.countMost(0), 0);
        RepairRange six = table(0, 7, 1, 1, 7, 1, 2, 7, 1, 3, 7, 1, 4, 7, 1, 5, 7, 1);
        checks.due("countLeast 7, all keys", six.countLeast(7), 6);
        checks.due("countMost 7, all keys", six.countMost(7), 6);
    }

    private static void sums() {
        // Group 1: key 0 gives -5 or 3; key 1 gives 4 or nothing; key 2 gives -2 or nothing.
        RepairRange table = table(0, 1, -5, 0, 1, 3, 1, 1, 4, 1, 2, 100, 2, 1, -2, 2, 3, -100);
        checks.due("sumLeast 1", table.sumLeast(1), -7);
        checks.due("sumMost 1", table.sumMost(1), 7);
        checks.due("sumLeast 2", table.sumLeast(2), 0);
        checks.due("sumMost 2", table.sumMost(2), 100);
        checks.due("sumLeast 3", table.sumLeast(3), -100);
        checks.due("sumMost 3", table.sumMost(3), 0);
        checks.due("sumLeast 4", table.sumLeast(4), 0);
        checks.due("sumMost 4", table.sumMost(4), 0);
        RepairRange forced = table(0, 6, -8, 1, 6, -9, 1, 6, -7, 2, 0, 50);
        checks.due("sumLeast 6, all below 0", forced.sumLeast(6), -17);
        checks.due("sumMost 6, all below 0", forced.sumMost(6), -15);
        RepairRange low = table(0, 0, -1000, 1, 0, -1000, 2, 0, -1000, 3, 0, -1000, 4, 0, -1000, 5, 0, -1000);
        checks.due("sumLeast 0, the least of all", low.sumLeast(0), -6000);
        checks.due("sumMost 0, the least of all", low.sumMost(0), -6000);
        RepairRange high = table(0, 0, 1000, 1, 0, 1000, 2, 0, 1000, 3, 0, 1000, 4, 0, 1000, 5, 0, 1000);
        checks.due("sumLeast 0, the greatest of all", high.sumLeast(0), 6000);
        checks.due("sumMost 0, the greatest of all", high.sumMost(0), 6000);
    }

    private static void groups() {
        RepairRange one = table(4, 7, 0);
        checks.due("groupsLeast, one row", one.groupsLeast(), 1);
        checks.due("groupsMost, one row", one.groupsMost(), 1);
        RepairRange choice = table(0, 0, 0, 0, 7, 0, 1, 7, 0, 1, 3, 0, 2, 7, 0, 2, 5, 0);
        checks.due("groupsLeast, one group can do", choice.groupsLeast(), 1);
        checks.due("groupsMost, all apart", choice.groupsMost(), 3);
        RepairRange apart = table(0, 0, 0, 1, 1, 0, 2, 2, 0, 3, 3, 0, 4, 4, 0, 5, 7, 0);
        checks.due("groupsLeast, six apart", apart.groupsLeast(), 6);
        checks.due("groupsMost, six apart", apart.groupsMost(), 6);
        RepairRange bound = table(0, 0, 0, 0, 1, 0, 1, 0, 0, 1, 1, 0, 2, 0, 0, 2, 1, 0);
        checks.due("groupsLeast, two groups", bound.groupsLeast(), 1);
        checks.due("groupsMost, two groups", bound.groupsMost(), 2);
    }

    private static void spread() {
        checks.due("spreadLeast, one row", table(1, 1, -700).spreadLeast(), 0);
        checks.due("spreadLeast, one key", table(1, 1, -700, 1, 1, 700).spreadLeast(), 0);
        checks.due("spreadLeast, two keys", table(0, 0, -3, 1, 0, 9, 1, 0, -11).spreadLeast(), 8);
        checks.due("spreadLeast, above 0", table(0, 0, 30, 1, 0, 42, 2, 0, 35).spreadLeast(), 12);
        checks.due("spreadLeast, below 0", table(0, 0, -30, 1, 0, -42, 2, 0, -35).spreadLeast(), 12);
        checks.due("spreadLeast, equal values", table(0, 0, 5, 0, 0, 6, 1, 0, 6, 2, 0, 6).spreadLeast(), 0);
        checks.due("spreadLeast, the widest", table(0, 0, -1000, 5, 0, 1000).spreadLeast(), 2000);
        // The nearest row to one key is not the nearest to the other.
        checks.due("spreadLeast, three keys",
            table(0, 0, 0, 1, 0, 1, 1, 0, 90, 2, 0, 100, 0, 0, 80).spreadLeast(), 20);
    }

    private static void middle() {
        checks.due("middleMost, one row", table(2, 2, -9).middleMost(), -9);
        checks.due("middleMost, one key", table(2, 2, -9, 2, 3, 4, 2, 2, 1).middleMost(), 4);
        checks.due("middleMost, two rows", table(0, 0, 8, 1, 0, 3).middleMost(), 3);
        checks.due("middleMost, three rows", table(0, 0, 8, 1, 0, 3, 2, 0, 5).middleMost(), 5);
        checks.due("middleMost, four rows", table(0, 0, 8, 1, 0, 3, 2, 0, 5, 3, 0, 4).middleMost(), 4);
        checks.due("middleMost, five rows",
            table(0, 0, 8, 1, 0, 3, 2, 0, 5, 3, 0, 4, 4, 0, -1).middleMost(), 4);
        checks.due("middleMost, six rows",
            table(0, 0, 8, 1, 0, 3, 2, 0, 5, 3, 0, 4, 4, 0, -1, 5, 0, 9).middleMost(), 4);
        checks.due("middleMost, equal values",
            table(0, 0, 7, 1, 0, 7, 2, 0, 7, 3, 0, 7, 4, 0, 7, 5, 0, 7).middleMost(), 7);
        checks.due("middleMost, equal below", table(0, 0, 2, 1, 0, 2, 2, 0, 9).middleMost(), 2);
        checks.due("middleMost, equal above", table(0, 0, 9, 1, 0, 2, 2, 0, 9).middleMost(), 9);
        checks.due("middleMost, over repairs",
            table(0, 0, -5, 0, 0, 6, 1, 0, 1, 1, 0, 7, 2, 0, 3).middleMost(), 6);
        checks.due("middleMost, all below 0", table(0, 0, -5, 0, 0, -6, 1, 0, -8, 1, 0, -9).middleMost(), -8);
        checks.due("middleMost, the least", table(0, 0, -1000).middleMost(), -1000);
        checks.due("middleMost, the greatest", table(0, 0, 1000, 1, 0, 1000).middleMost(), 1000);
    }

    private static void mixed() {
        checks.due("mixedMost, one row", table(3, 3, -4).mixedMost(), -4);
        checks.due("mixedMost, one key", table(3, 3, -4, 3, 3, 11).mixedMost(), 11);
        checks.due("mixedMost, all the same group", table(0, 1, 5, 1, 1, 6).mixedMost(), NONE);
        checks.due("mixedMost, apart", table(0, 1, 5, 1, 2, 6).mixedMost(), 11);
        // The greatest sum of all, 100 + 90, has group 1 twice.
        checks.due("mixedMost, not the greatest sum",
            table(0, 1, 100, 0, 2, 50, 1, 1, 90, 1, 3, 20).mixedMost(), 140);
        checks.due("mixedMost, sum 0", table(0, 1, 5, 1, 2, -5).mixedMost(), 0);
        checks.due("mixedMost, below 0", table(0, 1, -5, 0, 2, -6, 1, 1, -7).mixedMost(), -13);
        checks.due("mixedMost, three keys on two groups",
            table(0, 0, 1, 0, 1, 1, 1, 0, 1, 1, 1, 1, 2, 0, 1, 2, 1, 1).mixedMost(), NONE);
        checks.due("mixedMost, six keys",
            table(0, 0, 1000, 1, 1, 1000, 2, 2, 1000, 3, 3, 1000, 4, 4, 1000, 5, 7, 1000).mixedMost(), 6000);
        checks.due("mixedMost, six keys, least",
            table(0, 0, -1000, 1, 1, -1000, 2, 2, -1000, 3, 3, -1000, 4, 4, -1000, 5, 7, -1000).mixedMost(),
            -6000);
    }

    private static void exactly() {
        // The four repairs have the groups {0, 2}, {0, 7}, {2} and {2, 7}.
        RepairRange table = table(0, 0, 1, 0, 2, 1, 1, 2, 1, 1, 7, 1);
        for (int mask = 0; mask < 256; mask++) {
            boolean due = mask == 5 || mask == 4 || mask == 129 || mask == 132;
            checks.due("exactly " + mask, table.exactly(mask), due);
            checks.due("exactly " + mask + " with bit 8", table.exactly(mask + 256), due);
            checks.due("exactly " + mask + " with bit 31", table.exactly(mask | Integer.MIN_VALUE), due);
            checks.due("exactly " + mask + " with all bits from 8", table.exactly(mask | -256), due);
        }
        RepairRange empty = new RepairRange();
        checks.due("exactly 0, empty", empty.exactly(0), true);
        checks.due("exactly 256, empty", empty.exactly(256), true);
        checks.due("exactly -256, empty", empty.exactly(-256), true);
        checks.due("exactly 1, empty", empty.exactly(1), false);
        checks.due("exactly -1, empty", empty.exactly(-1), false);
        checks.due("exactly 0, one row", table(0, 0, 0).exactly(0), false);
        checks.due("exactly 1, one row", table(0, 0, 0).exactly(1), true);
    }

    private static void wrongGroups() {
        RepairRange[] tables = {new RepairRange(), table(0, 0, 5, 0, 7, 6, 1, 7, -8)};
        int[] wrong = {-1, 8, 9, 31, 32, 39, -8, -32, 1000000, Integer.MIN_VALUE, Integer.MAX_VALUE};
        for (RepairRange table : tables) {
            for (int group : wrong) {
                checks.due("countLeast " + group, table.countLeast(group), NONE);
                checks.due("countMost " + group, table.countMost(group), NONE);
                checks.due("sumLeast " + group, table.sumLeast(group), NONE);
                checks.due("sumMost " + group, table.sumMost(group), NONE);
            }
        }
        checks.due("countMost 7", tables[1].countMost(7), 2);
        checks.due("sumLeast 7", tables[1].sumLeast(7), -8);
        checks.due("sumMost 7", tables[1].sumMost(7), -2);
        checks.due("sumMost 0", tables[1].sumMost(0), 5);
    }

    private static void equalRowsAreDifferent() {
        RepairRange table = table(1, 2, 3, 1, 2, 3, 4, 5, 6, 4, 5, 6, 4, 5, 6);
        checks.due("equal rows: repairs", table.repairs(), 6);
        checks.due("equal rows: countMost", table.countMost(2), 1);
        checks.due("equal rows: sumMost", table.sumMost(5), 6);
        checks.due("equal rows: mixedMost", table.mixedMost(), 9);
        checks.due("equal rows: remove", table.remove(0), 4);
        checks.due("equal rows: repairs after", table.repairs(), 3);
    }
}
