import java.util.Arrays;
import java.util.function.ToIntBiFunction;

/**
 * The sentences about the questions that name a boundary case, in the document's order, each with a test
 * of its own: the wrong groups of "Terms" and promises 4 to 14. No object is used for more than 512 calls.
 */
public final class BoundaryQuestionsTest {
    private static final Checks checks = new Checks();
    private static final int NONE = RepairRange.NONE;
    private static final int LOWEST = Integer.MIN_VALUE;
    private static final int HIGHEST = Integer.MAX_VALUE;

    // Beside the nearest and the farthest ones, numbers that look right as a shift, or cut to 8 or 16 bits.
    private static final int[] WRONG_GROUPS = {
        -1, 8, -2, 9, 31, 32, 39, -32, 256, 65536, -249, NONE, LOWEST, LOWEST + 7, HIGHEST};

    public static void main(String[] args) {
        wrongGroupsAreNone();

        repairsOfEveryDivisionOfRows();
        countLeastAtItsEdges();
        countMostAtItsEdges();
        sumLeastIs0WhereARepairHasNone();
        sumMostIs0WhereARepairHasNone();
        sumsAtTheirGreatestReach();
        groupsLeastEmptyAndFull();
        groupsMostEmptyAndFull();
        spreadLeastOfTheEmptyTable();
        spreadLeastAtItsEdges();
        middleMostTakesTheLowerMiddle();
        middleMostCountsTheRepairNotTheTable();
        middleMostOfTheEmptyTable();
        mixedMostOfTheEmptyTable();
        mixedMostWithoutSuchARepair();
        mixedMostAtItsEdges();
        exactlyPassesOverBitsFrom8();
        exactlyOfTheEmptyTable();
        exactlyWantsEachGroupAtLeastOnce();
        checks.end();
    }

    private static RepairRange[] emptyTables() {
        return new RepairRange[] {new RepairRange(), Tables.emptied()};
    }

    /** One row for each key, all with the same group and value. */
    private static RepairRange sixKeys(int group, int value) {
        return Tables.of(0, group, value, 1, group, value, 2, group, value,
            3, group, value, 4, group, value, 5, group, value);
    }

    /** Fourteen rows with the value 0, which go through the first so many keys and through the groups in turn. */
    private static RepairRange fullWith(int keys, int... groups) {
        int[] rows = new int[3 * Tables.CAPACITY];
        for (int id = 0; id < Tables.CAPACITY; id++) {
            rows[3 * id] = id % keys;
            rows[3 * id + 1] = groups[id % groups.length];
        }
        return Tables.of(rows);
    }

    // The one boolean among the calls, exactly, is given no group: its "false" cannot be asked for.
    private static void wrongGroupsAreNone() {
        checks.about("Terms", "In all of them a group not in 0 to 7 makes the answer NONE");
        wrongGroupsAreNone("countLeast", RepairRange::countLeast);
        wrongGroupsAreNone("countMost", RepairRange::countMost);
        wrongGroupsAreNone("sumLeast", RepairRange::sumLeast);
        wrongGroupsAreNone("sumMost", RepairRange::sumMost);
    }

    private static void wrongGroupsAreNone(String name, ToIntBiFunction<RepairRange, Integer> call) {
        for (int rows = 0; rows <= Tables.CAPACITY; rows++) {
            RepairRange table = Tables.withRows(rows);
            for (int group : WRONG_GROUPS) {
                checks.due(name + " " + group + " of " + rows + " rows", call.applyAsInt(table, group), NONE);
            }
        }
    }

    /** Goes through all the ways to divide 0 to 14 rows among the six keys. */
    private static void repairsOfEveryDivisionOfRows() {
        checks.about("Promise 4", "How many repairs there are. (At most 162.)");
        int greatest = 0;
        int[] rowsOfKey = new int[6];
        boolean more = true;
        while (more) {
            int repairs = tableDividedAs(rowsOfKey).repairs();
            checks.due("repairs of rows divided as " + Arrays.toString(rowsOfKey),
                repairs, productOfOccurring(rowsOfKey));
            greatest = Math.max(greatest, repairs);
            more = goOn(rowsOfKey);
        }
        checks.due("the greatest number of repairs", greatest, 162);
    }

    private static RepairRange tableDividedAs(int[] rowsOfKey) {
        RepairRange table = new RepairRange();
        for (int key = 0; key < rowsOfKey.length; key++) {
            for (int row = 0; row < rowsOfKey[key]; row++) {
                table.add(key, row % 8, row);
            }
        }
        return table;
    }

    private static int productOfOccurring(int[] rowsOfKey) {
        int product = 1;
        for (int rows : rowsOfKey) {
            product *= Math.max(1, rows);
        }
        return product;
    }

    /** Counts on to the next division of at most fourteen rows; false after the last one. */
    private static boolean goOn(int[] rowsOfKey) {
        for (int key = 0; key < rowsOfKey.length; key++) {
            rowsOfKey[key]++;
            if (Arrays.stream(rowsOfKey).sum() <= Tables.CAPACITY) {
                return true;
            }
            rowsOfKey[key] = 0;
        }
        return false;
    }

    private static void countLeastAtItsEdges() {
        checks.about("Promise 5", "countLeast: empty, full, first and last group");
        for (RepairRange empty : emptyTables()) {
            for (int group = 0; group <= 7; group++) {
                checks.due("countLeast " + group + ", empty", empty.countLeast(group), 0);
            }
        }
        checks.due("countLeast 0, avoidable", Tables.of(0, 0, 5, 0, 7, 6).countLeast(0), 0);
        checks.due("countLeast 7, avoidable", Tables.of(0, 0, 5, 0, 7, 6).countLeast(7), 0);
        checks.due("countLeast 0, one forced", Tables.of(0, 0, 5, 1, 0, 6, 1, 7, 6).countLeast(0), 1);
        checks.due("countLeast 7, one forced", Tables.of(0, 7, 5, 1, 7, 6, 1, 0, 6).countLeast(7), 1);
        checks.due("countLeast 0, six keys", sixKeys(0, 1).countLeast(0), 6);
        checks.due("countLeast 7, six keys", sixKeys(7, 1).countLeast(7), 6);
        checks.due("countLeast 0, full of it", fullWith(6, 0).countLeast(0), 6);
        checks.due("countLeast 7, full of it", fullWith(6, 7).countLeast(7), 6);
        checks.due("countLeast 7, full of it under one key", fullWith(1, 7).countLeast(7), 1);
        checks.due("countLeast 0, full", Tables.full().countLeast(0), 0);
        checks.due("countLeast 7, full", Tables.full().countLeast(7), 0);
    }

    private static void countMostAtItsEdges() {
        checks.about("Promise 6", "countMost: empty, full, first and last group");
        for (RepairRange empty : emptyTables()) {
            for (int group = 0; group <= 7; group++) {
                checks.due("countMost " + group + ", empty", empty.countMost(group), 0);
            }
        }
        checks.due("countMost 0, under one key", Tables.of(0, 0, 5, 0, 0, 6, 0, 7, 6).countMost(0), 1);
        checks.due("countMost 7, under one key", Tables.of(0, 7, 5, 0, 7, 6, 0, 0, 6).countMost(7), 1);
        checks.due("countMost 0, no such row", sixKeys(7, 1).countMost(0), 0);
        checks.due("countMost 7, no such row", sixKeys(0, 1).countMost(7), 0);
        checks.due("countMost 0, six keys", sixKeys(0, 1).countMost(0), 6);
        checks.due("countMost 7, six keys", sixKeys(7, 1).countMost(7), 6);
        checks.due("countMost 0, full of it", fullWith(6, 0).countMost(0), 6);
        checks.due("countMost 7, full of it", fullWith(6, 7).countMost(7), 6);
        checks.due("countMost 7, full of it under one key", fullWith(1, 7).countMost(7), 1);
        checks.due("countMost 0, full", Tables.full().countMost(0), 2);
        checks.due("countMost 7, full", Tables.full().countMost(7), 4);
    }

    private static void sumLeastIs0WhereARepairHasNone() {
        checks.about("Promise 7", "sumLeast: (0 if the repair has none)");
        for (RepairRange empty : emptyTables()) {
            for (int group = 0; group <= 7; group++) {
                checks.due("sumLeast " + group + ", empty", empty.sumLeast(group), 0);
            }
        }
        checks.due("sumLeast 2, no such row", Tables.of(0, 1, 5).sumLeast(2), 0);
        checks.due("sumLeast 2, no such row", Tables.of(0, 1, -5).sumLeast(2), 0);
        checks.due("sumLeast 0, none is less", Tables.of(0, 0, 5, 0, 7, 9).sumLeast(0), 0);
        checks.due("sumLeast 7, none is less", Tables.of(0, 0, 5, 0, 7, 9).sumLeast(7), 0);
        checks.due("sumLeast 1, none is more", Tables.of(0, 1, -5, 0, 2, 9).sumLeast(1), -5);
        checks.due("sumLeast 1, no repair without", Tables.of(0, 1, 5, 0, 1, 9).sumLeast(1), 5);
        checks.due("sumLeast 0, full", Tables.full().sumLeast(0), -1000);
        checks.due("sumLeast 7, full", Tables.full().sumLeast(7), -948);
    }

    private static void sumMostIs0WhereARepairHasNone() {
        checks.about("Promise 8", "sumMost: (0 if the repair has none)");
        for (RepairRange empty : emptyTables()) {
            for (int group = 0; group <= 7; group++) {
                checks.due("sumMost " + group + ", empty", empty.sumMost(group), 0);
            }
        }
        checks.due("sumMost 2, no such row", Tables.of(0, 1, 5).sumMost(2), 0);
        checks.due("sumMost 2, no such row", Tables.of(0, 1, -5).sumMost(2), 0);
        checks.due("sumMost 0, none is more", Tables.of(0, 0, -5, 0, 7, -9).sumMost(0), 0);
        checks.due("sumMost 7, none is more", Tables.of(0, 0, -5, 0, 7, -9).sumMost(7), 0);
        checks.due("sumMost 1, none is less", Tables.of(0, 1, 5, 0, 2, -9).sumMost(1), 5);
        checks.due("sumMost 1, no repair without", Tables.of(0, 1, -5, 0, 1, -9).sumMost(1), -5);
        checks.due("sumMost 0, full", Tables.full().sumMost(0), 560);
        checks.due("sumMost 7, full", Tables.full().sumMost(7), 1702);
    }

    private static void sumsAtTheirGreatestReach() {
        checks.about("Promises 7 and 8", "a value (-1000 to 1000) under every key");
        for (int group = 0; group <= 7; group++) {
            checks.due("sumLeast, lowest, " + group, sixKeys(group, -1000).sumLeast(group), -6000);
            checks.due("sumMost, lowest, " + group, sixKeys(group, -1000).sumMost(group), -6000);
            checks.due("sumLeast, highest, " + group, sixKeys(group, 1000).sumLeast(group), 6000);
            checks.due("sumMost, highest, " + group, sixKeys(group, 1000).sumMost(group), 6000);
        }
    }

    private static void groupsLeastEmptyAndFull() {
        checks.about("Promise 9", "groupsLeast: on the empty table and on the full one");
        for (RepairRange empty : emptyTables()) {
            checks.due("groupsLeast, empty", empty.groupsLeast(), 0);
        }
        checks.due("groupsLeast, one row", Tables.of(5, 7, 0).groupsLeast(), 1);
        checks.due("groupsLeast, full", Tables.full().groupsLeast(), 2);
        checks.due("groupsLeast, full of the first group", fullWith(6, 0).groupsLeast(), 1);
        checks.due("groupsLeast, full of the last group", fullWith(6, 7).groupsLeast(), 1);
        checks.due("groupsLeast, full under one key", fullWith(1, 0, 1, 2, 3, 4, 5, 6, 7).groupsLeast(), 1);
        checks.due("groupsLeast, full, a group for each key", fullWith(6, 7, 6, 5, 4, 3, 2).groupsLeast(), 6);
        // Keys 0, 2 and 4 have the groups {0, 4, 6}, {0, 2} and {2, 4}: two are needed, for the odd ones too.
        checks.due("groupsLeast, full of all groups", fullWith(6, 0, 1, 2, 3, 4, 5, 6, 7).groupsLeast(), 4);
    }

    private static void groupsMostEmptyAndFull() {
        checks.about("Promise 10", "groupsMost: on the empty table and on the full one");
        for (RepairRange empty : emptyTables()) {
            checks.due("groupsMost, empty", empty.groupsMost(), 0);
        }
        checks.due("groupsMost, one row", Tables.of(5, 7, 0).groupsMost(), 1);
        checks.due("groupsMost, full", Tables.full().groupsMost(), 5);
        checks.due("groupsMost, full of the first group", fullWith(6, 0).groupsMost(), 1);
        checks.due("groupsMost, full of the last group", fullWith(6, 7).groupsMost(), 1);
        checks.due("groupsMost, full under one key", fullWith(1, 0, 1, 2, 3, 4, 5, 6, 7).groupsMost(), 1);
        checks.due("groupsMost, full, a group for each key", fullWith(6, 7, 6, 5, 4, 3, 2).groupsMost(), 6);
        checks.due("groupsMost, full of all groups", fullWith(6, 0, 1, 2, 3, 4, 5, 6, 7).groupsMost(), 6);
    }

    private static void spreadLeastOfTheEmptyTable() {
        checks.about("Promise 11", "spreadLeast: NONE if the table is empty.");
        for (RepairRange table : emptyTables()) {
            checks.due("spreadLeast, empty", table.spreadLeast(), NONE);
            table.add(0, 0, 1001);
            checks.due("spreadLeast after a refused add", table.spreadLeast(), NONE);
            table.add(0, 0, 0);
            checks.due("spreadLeast with one row", table.spreadLeast(), 0);
            table.remove(0);
            checks.due("spreadLeast, empty again", table.spreadLeast(), NONE);
        }
    }

    private static void spreadLeastAtItsEdges() {
        checks.about("Promise 11", "greatest value in the repair less least value in the repair");
        checks.due("spreadLeast of the least value", Tables.of(0, 0, -1000).spreadLeast(), 0);
        checks.due("spreadLeast of the greatest value", Tables.of(5, 7, 1000).spreadLeast(), 0);
        checks.due("spreadLeast of one key", Tables.of(5, 7, 1000, 5, 7, -1000).spreadLeast(), 0);
        checks.due("spreadLeast, the widest", Tables.of(0, 0, -1000, 5, 7, 1000).spreadLeast(), 2000);
        checks.due("spreadLeast of six equal values", sixKeys(0, -1000).spreadLeast(), 0);
        // Keys 1 to 5 have 100 to 500 or the same below 0; for key 0 300 lies between.
        checks.due("spreadLeast, full", Tables.of(
            0, 0, 0, 0, 0, 1000, 0, 0, 300, 0, 0, -1000, 1, 0, 100, 1, 0, -100, 2, 0, 200, 2, 0, -200,
            3, 0, 300, 3, 0, -300, 4, 0, 400, 4, 0, -400, 5, 0, 500, 5, 0, -500).spreadLeast(), 400);
    }

    private static void middleMostTakesTheLowerMiddle() {
        checks.about("Promise 12", "the one at place (k - 1) / 2 counted from 0 (rounded down)");
        int[] dueOfLength = {NONE, -1000, -1000, -3, -3, 8, 8};
        int[] ascending = {-1000, -3, 8, 9, 700, 1000};
        for (int length = 1; length <= 6; length++) {
            for (int turn = 0; turn < length; turn++) {
                RepairRange up = new RepairRange();
                RepairRange down = new RepairRange();
                for (int place = 0; place < length; place++) {
                    up.add((place + turn) % length, 0, ascending[place]);
                    down.add(5 - (place + turn) % length, 0, ascending[place]);
                }
                String what = "middleMost of " + length + " rows turned by " + turn;
                checks.due(what, up.middleMost(), dueOfLength[length]);
                checks.due(what + ", downwards", down.middleMost(), dueOfLength[length]);
            }
        }
        checks.due("middleMost of six equal values", sixKeys(0, -1000).middleMost(), -1000);
        checks.due("middleMost, lower half equal",
            Tables.of(0, 0, 1, 1, 0, 4, 2, 0, 1, 3, 0, 4, 4, 0, 1, 5, 0, 4).middleMost(), 1);
        checks.due("middleMost, upper two thirds equal",
            Tables.of(0, 0, 1, 1, 0, 4, 2, 0, 1, 3, 0, 4, 4, 0, 4, 5, 0, 4).middleMost(), 4);
    }

    private static void middleMostCountsTheRepairNotTheTable() {
        checks.about("Promise 12", "its values in ascending order, k of them");
        checks.due("middleMost of one key, two rows", Tables.of(0, 0, -1000, 0, 0, 1000).middleMost(), 1000);
        checks.due("middleMost of one key, full", fullWith(1, 0).middleMost(), 0);
        checks.due("middleMost of two keys, three rows", Tables.of(0, 0, 1, 0, 0, 5, 1, 0, 9).middleMost(), 5);
        // The highest rows of the keys 0, 1, 2, 3 and 5 are 1000, 410, 560, 240 and 702.
        checks.due("middleMost, full", Tables.full().middleMost(), 560);
    }

    private static void middleMostOfTheEmptyTable() {
        checks.about("Promise 12", "middleMost: NONE if the table is empty.");
        for (RepairRange table : emptyTables()) {
            checks.due("middleMost, empty", table.middleMost(), NONE);
            table.add(0, 8, 0);
            checks.due("middleMost after a refused add", table.middleMost(), NONE);
            table.add(0, 0, -1000);
            checks.due("middleMost with one row", table.middleMost(), -1000);
            table.remove(0);
            checks.due("middleMost, empty again", table.middleMost(), NONE);
        }
    }

    private static void mixedMostOfTheEmptyTable() {
        checks.about("Promise 13", "mixedMost: NONE if the table is empty");
        for (RepairRange table : emptyTables()) {
            checks.due("mixedMost, empty", table.mixedMost(), NONE);
            table.add(6, 0, 0);
            checks.due("mixedMost after a refused add", table.mixedMost(), NONE);
            table.add(0, 0, 0);
            checks.due("mixedMost with one row", table.mixedMost(), 0);
            table.remove(0);
            checks.due("mixedMost, empty again", table.mixedMost(), NONE);
        }
    }

    private static void mixedMostWithoutSuchARepair() {
        checks.about("Promise 13", "mixedMost: NONE if there is no such repair");
        for (int group = 0; group <= 7; group++) {
            checks.due("mixedMost, two of group " + group,
                Tables.of(0, group, 5, 5, group, 6).mixedMost(), NONE);
            checks.due("mixedMost, six of group " + group, sixKeys(group, 0).mixedMost(), NONE);
            checks.due("mixedMost, full of group " + group, fullWith(2, group).mixedMost(), NONE);
        }
        checks.due("mixedMost, six keys on five groups", fullWith(6, 0, 1, 2, 3, 7, 7).mixedMost(), NONE);
        RepairRange table = Tables.of(0, 1, 5, 1, 1, 6, 1, 2, -7);
        checks.due("mixedMost, one such repair", table.mixedMost(), -2);
        checks.due("remove its row", table.remove(2), 2);
        checks.due("mixedMost, no such repair any more", table.mixedMost(), NONE);
    }

    private static void mixedMostAtItsEdges() {
        checks.about("Promise 13", "the repairs that have no two rows of the same group");
        checks.due("mixedMost of one key, one group", Tables.of(0, 7, -1000, 0, 7, 1000).mixedMost(), 1000);
        checks.due("mixedMost, first and last group", Tables.of(0, 0, 1000, 5, 7, -1000).mixedMost(), 0);
        checks.due("mixedMost, the least", Tables.of(0, 7, -1000, 1, 6, -1000, 2, 5, -1000,
            3, 4, -1000, 4, 3, -1000, 5, 2, -1000).mixedMost(), -6000);
        checks.due("mixedMost, the greatest", Tables.of(0, 0, 1000, 1, 1, 1000, 2, 2, 1000,
            3, 3, 1000, 4, 4, 1000, 5, 5, 1000).mixedMost(), 6000);
        checks.due("mixedMost, the greater of two",
            Tables.of(0, 1, 9, 0, 2, -9, 1, 1, 8, 1, 1, -8).mixedMost(), -1);
        // With group 7 from key 0 key 5 must give its -4: 1000 + 410 + 560 + 240 - 4.
        checks.due("mixedMost, full", Tables.full().mixedMost(), 2206);
    }

    private static void exactlyPassesOverBitsFrom8() {
        checks.about("Promise 14", "(bits from 8 on are not looked at)");
        for (int mask = 0; mask < 256; mask++) {
            // The four repairs have the groups {0, 2}, {0, 7}, {2} and {2, 7}.
            RepairRange table = Tables.of(0, 0, 1, 0, 2, 1, 1, 2, 1, 1, 7, 1);
            boolean due = mask == 5 || mask == 129 || mask == 4 || mask == 132;
            checks.due("exactly " + mask, table.exactly(mask), due);
            for (int bit = 8; bit <= 31; bit++) {
                checks.due("exactly " + mask + " with bit " + bit, table.exactly(mask | 1 << bit), due);
            }
            checks.due("exactly " + (mask | -256), table.exactly(mask | -256), due);
            checks.due("exactly " + (mask | HIGHEST - 255), table.exactly(mask | HIGHEST - 255), due);
        }
        checks.due("exactly -1, one group", Tables.of(0, 0, 1).exactly(-1), false);
        checks.due("exactly -255, first group", Tables.of(0, 0, 1).exactly(-255), true);
        checks.due("exactly -128, last group", Tables.of(0, 7, 1).exactly(-128), true);
        checks.due("exactly the least int, one group", Tables.of(0, 0, 1).exactly(LOWEST), false);
        checks.due("exactly the least int and 1", Tables.of(0, 0, 1).exactly(LOWEST + 1), true);
    }

    private static void exactlyOfTheEmptyTable() {
        checks.about("Promise 14", "exactly: the empty table's one repair has no group");
        for (RepairRange empty : emptyTables()) {
            checks.due("exactly 0, empty", empty.exactly(0), true);
            checks.due("exactly -256, empty", empty.exactly(-256), true);
            checks.due("exactly -1, empty", empty.exactly(-1), false);
            for (int bit = 0; bit <= 31; bit++) {
                checks.due("exactly bit " + bit + ", empty", empty.exactly(1 << bit), bit >= 8);
            }
        }
        checks.due("exactly 0, one row", Tables.of(0, 0, 0).exactly(0), false);
        checks.due("exactly 256, one row", Tables.of(0, 0, 0).exactly(256), false);
    }

    private static void exactlyWantsEachGroupAtLeastOnce() {
        checks.about("Promise 14", "exactly those groups, each at least once");
        RepairRange allGroups = fullWith(6, 0, 1, 2, 3, 4, 5, 6, 7);
        checks.due("exactly all eight groups", allGroups.exactly(255), false);
        checks.due("exactly all eight groups, all bits", allGroups.exactly(-1), false);
        for (int group = 0; group <= 7; group++) {
            checks.due("exactly all groups but " + group, allGroups.exactly(255 - (1 << group)), false);
        }
        checks.due("exactly the first six groups", allGroups.exactly(63), true);
        for (int mask = 0; mask < 256; mask++) {
            boolean firstSix = fullWith(6, 0, 1, 2, 3, 4, 5).exactly(mask);
            checks.due("exactly " + mask + " where the first six must be", firstSix, mask == 63);
            boolean last = fullWith(6, 7).exactly(mask);
            checks.due("exactly " + mask + " where all six are the last group", last, mask == 128);
        }
    }
}
