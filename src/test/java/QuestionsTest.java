/** Promises 4 to 14: every question on tables whose answers are worked out by hand. */
public final class QuestionsTest {
    private static final Checks checks = new Checks();
    private static final int NONE = RepairRange.NONE;

    public static void main(String[] args) {
        repairs();
        counts();
        sums();
        groups();
        spread();
        middle();
        mixed();
        exactly();
        checks.end();
    }

    private static void repairs() {
        checks.due("repairs, one row", Tables.ofKeys(5).repairs(), 1);
        checks.due("repairs, one key", Tables.ofKeys(3, 3, 3).repairs(), 3);
        checks.due("repairs, six keys", Tables.ofKeys(0, 1, 2, 3, 4, 5).repairs(), 1);
        checks.due("repairs, 2 and 3", Tables.ofKeys(0, 5, 0, 5, 5).repairs(), 6);
        checks.due("repairs, one key, full",
            Tables.ofKeys(2, 2, 2, 2, 2, 2, 2, 2, 2, 2, 2, 2, 2, 2).repairs(), 14);
        checks.due("repairs, the most",
            Tables.ofKeys(0, 0, 0, 1, 1, 1, 3, 3, 3, 4, 4, 4, 5, 5).repairs(), 162);
        checks.due("repairs, six keys, full",
            Tables.ofKeys(0, 0, 0, 1, 1, 1, 2, 2, 3, 3, 4, 4, 5, 5).repairs(), 144);
    }

    private static void counts() {
        // Key 0 must give group 1, key 1 may, key 2 cannot.
        RepairRange table = Tables.of(0, 1, 5, 0, 1, 6, 1, 1, 7, 1, 2, 8, 2, 3, 9);
        checks.due("countLeast 1", table.countLeast(1), 1);
        checks.due("countMost 1", table.countMost(1), 2);
        checks.due("countLeast 2", table.countLeast(2), 0);
        checks.due("countMost 2", table.countMost(2), 1);
        checks.due("countLeast 3", table.countLeast(3), 1);
        checks.due("countMost 3", table.countMost(3), 1);
        checks.due("countLeast 0", table.countLeast(0), 0);
        checks.due("countMost 0", table.countMost(0), 0);
        RepairRange six = Tables.of(0, 7, 1, 1, 7, 1, 2, 7, 1, 3, 7, 1, 4, 7, 1, 5, 7, 1);
        checks.due("countLeast 7, all keys", six.countLeast(7), 6);
        checks.due("countMost 7, all keys", six.countMost(7), 6);
    }

    private static void sums() {
        // Group 1: key 0 gives -5 or 3; key 1 gives 4 or nothing; key 2 gives -2 or nothing.
        RepairRange table = Tables.of(0, 1, -5, 0, 1, 3, 1, 1, 4, 1, 2, 100, 2, 1, -2, 2, 3, -100);
        checks.due("sumLeast 1", table.sumLeast(1), -7);
        checks.due("sumMost 1", table.sumMost(1), 7);
        checks.due("sumLeast 2", table.sumLeast(2), 0);
        checks.due("sumMost 2", table.sumMost(2), 100);
        checks.due("sumLeast 3", table.sumLeast(3), -100);
        checks.due("sumMost 3", table.sumMost(3), 0);
        checks.due("sumLeast 4", table.sumLeast(4), 0);
        checks.due("sumMost 4", table.sumMost(4), 0);
        RepairRange forced = Tables.of(0, 6, -8, 1, 6, -9, 1, 6, -7, 2, 0, 50);
        checks.due("sumLeast 6, all below 0", forced.sumLeast(6), -17);
        checks.due("sumMost 6, all below 0", forced.sumMost(6), -15);
        RepairRange low = Tables.of(0, 0, -1000, 1, 0, -1000, 2, 0, -1000, 3, 0, -1000, 4, 0, -1000, 5, 0, -1000);
        checks.due("sumLeast 0, the least of all", low.sumLeast(0), -6000);
        checks.due("sumMost 0, the least of all", low.sumMost(0), -6000);
        RepairRange high = Tables.of(0, 0, 1000, 1, 0, 1000, 2, 0, 1000, 3, 0, 1000, 4, 0, 1000, 5, 0, 1000);
        checks.due("sumLeast 0, the greatest of all", high.sumLeast(0), 6000);
        checks.due("sumMost 0, the greatest of all", high.sumMost(0), 6000);
    }

    private static void groups() {
        RepairRange one = Tables.of(4, 7, 0);
        checks.due("groupsLeast, one row", one.groupsLeast(), 1);
        checks.due("groupsMost, one row", one.groupsMost(), 1);
        RepairRange choice = Tables.of(0, 0, 0, 0, 7, 0, 1, 7, 0, 1, 3, 0, 2, 7, 0, 2, 5, 0);
        checks.due("groupsLeast, one group can do", choice.groupsLeast(), 1);
        checks.due("groupsMost, all apart", choice.groupsMost(), 3);
        RepairRange apart = Tables.of(0, 0, 0, 1, 1, 0, 2, 2, 0, 3, 3, 0, 4, 4, 0, 5, 7, 0);
        checks.due("groupsLeast, six apart", apart.groupsLeast(), 6);
        checks.due("groupsMost, six apart", apart.groupsMost(), 6);
        RepairRange bound = Tables.of(0, 0, 0, 0, 1, 0, 1, 0, 0, 1, 1, 0, 2, 0, 0, 2, 1, 0);
        checks.due("groupsLeast, two groups", bound.groupsLeast(), 1);
        checks.due("groupsMost, two groups", bound.groupsMost(), 2);
    }

    private static void spread() {
        checks.due("spreadLeast, one row", Tables.of(1, 1, -700).spreadLeast(), 0);
        checks.due("spreadLeast, one key", Tables.of(1, 1, -700, 1, 1, 700).spreadLeast(), 0);
        checks.due("spreadLeast, two keys", Tables.of(0, 0, -3, 1, 0, 9, 1, 0, -11).spreadLeast(), 8);
        checks.due("spreadLeast, above 0", Tables.of(0, 0, 30, 1, 0, 42, 2, 0, 35).spreadLeast(), 12);
        checks.due("spreadLeast, below 0", Tables.of(0, 0, -30, 1, 0, -42, 2, 0, -35).spreadLeast(), 12);
        checks.due("spreadLeast, equal values", Tables.of(0, 0, 5, 0, 0, 6, 1, 0, 6, 2, 0, 6).spreadLeast(), 0);
        checks.due("spreadLeast, the widest", Tables.of(0, 0, -1000, 5, 0, 1000).spreadLeast(), 2000);
        // The nearest row to one key is not the nearest to the other.
        checks.due("spreadLeast, three keys",
            Tables.of(0, 0, 0, 1, 0, 1, 1, 0, 90, 2, 0, 100, 0, 0, 80).spreadLeast(), 20);
    }

    private static void middle() {
        checks.due("middleMost, one row", Tables.of(2, 2, -9).middleMost(), -9);
        checks.due("middleMost, one key", Tables.of(2, 2, -9, 2, 3, 4, 2, 2, 1).middleMost(), 4);
        checks.due("middleMost, two rows", Tables.of(0, 0, 8, 1, 0, 3).middleMost(), 3);
        checks.due("middleMost, three rows", Tables.of(0, 0, 8, 1, 0, 3, 2, 0, 5).middleMost(), 5);
        checks.due("middleMost, four rows", Tables.of(0, 0, 8, 1, 0, 3, 2, 0, 5, 3, 0, 4).middleMost(), 4);
        checks.due("middleMost, five rows",
            Tables.of(0, 0, 8, 1, 0, 3, 2, 0, 5, 3, 0, 4, 4, 0, -1).middleMost(), 4);
        checks.due("middleMost, six rows",
            Tables.of(0, 0, 8, 1, 0, 3, 2, 0, 5, 3, 0, 4, 4, 0, -1, 5, 0, 9).middleMost(), 4);
        checks.due("middleMost, equal values",
            Tables.of(0, 0, 7, 1, 0, 7, 2, 0, 7, 3, 0, 7, 4, 0, 7, 5, 0, 7).middleMost(), 7);
        checks.due("middleMost, equal below", Tables.of(0, 0, 2, 1, 0, 2, 2, 0, 9).middleMost(), 2);
        checks.due("middleMost, equal above", Tables.of(0, 0, 9, 1, 0, 2, 2, 0, 9).middleMost(), 9);
        checks.due("middleMost, over repairs",
            Tables.of(0, 0, -5, 0, 0, 6, 1, 0, 1, 1, 0, 7, 2, 0, 3).middleMost(), 6);
        checks.due("middleMost, all below 0", Tables.of(0, 0, -5, 0, 0, -6, 1, 0, -8, 1, 0, -9).middleMost(), -8);
        checks.due("middleMost, the least", Tables.of(0, 0, -1000).middleMost(), -1000);
        checks.due("middleMost, the greatest", Tables.of(0, 0, 1000, 1, 0, 1000).middleMost(), 1000);
    }

    private static void mixed() {
        checks.due("mixedMost, one row", Tables.of(3, 3, -4).mixedMost(), -4);
        checks.due("mixedMost, one key", Tables.of(3, 3, -4, 3, 3, 11).mixedMost(), 11);
        checks.due("mixedMost, all the same group", Tables.of(0, 1, 5, 1, 1, 6).mixedMost(), NONE);
        checks.due("mixedMost, apart", Tables.of(0, 1, 5, 1, 2, 6).mixedMost(), 11);
        // The greatest sum of all, 100 + 90, has group 1 twice.
        checks.due("mixedMost, not the greatest sum",
            Tables.of(0, 1, 100, 0, 2, 50, 1, 1, 90, 1, 3, 20).mixedMost(), 140);
        checks.due("mixedMost, sum 0", Tables.of(0, 1, 5, 1, 2, -5).mixedMost(), 0);
        checks.due("mixedMost, below 0", Tables.of(0, 1, -5, 0, 2, -6, 1, 1, -7).mixedMost(), -13);
        checks.due("mixedMost, three keys on two groups",
            Tables.of(0, 0, 1, 0, 1, 1, 1, 0, 1, 1, 1, 1, 2, 0, 1, 2, 1, 1).mixedMost(), NONE);
        checks.due("mixedMost, six keys",
            Tables.of(0, 0, 1000, 1, 1, 1000, 2, 2, 1000, 3, 3, 1000, 4, 4, 1000, 5, 7, 1000).mixedMost(), 6000);
        checks.due("mixedMost, six keys, least",
            Tables.of(0, 0, -1000, 1, 1, -1000, 2, 2, -1000, 3, 3, -1000, 4, 4, -1000, 5, 7, -1000).mixedMost(),
            -6000);
    }

    private static void exactly() {
        // The four repairs have the groups {0, 2}, {0, 7}, {2} and {2, 7}.
        RepairRange table = Tables.of(0, 0, 1, 0, 2, 1, 1, 2, 1, 1, 7, 1);
        for (int mask = 0; mask < 256; mask++) {
            boolean due = mask == 5 || mask == 4 || mask == 129 || mask == 132;
            checks.due("exactly " + mask, table.exactly(mask), due);
        }
        checks.due("exactly 1, one row", Tables.of(0, 0, 0).exactly(1), true);
    }
}
