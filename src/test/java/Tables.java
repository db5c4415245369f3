import java.util.Arrays;

/** The tables that several tests start from. */
final class Tables {
    static final int CAPACITY = 14;

    /**
     * Fourteen rows with the most repairs, 162, so that key 4 does not occur. The values differ, so that a
     * row that is lost, changed or mixed up with another shows.
     */
    private static final int[] FULL = {
        0, 0, -1000, 0, 1, 35, 0, 7, 1000,
        1, 1, -20, 1, 2, 410, 1, 7, -333,
        2, 3, 8, 2, 3, -77, 2, 0, 560,
        3, 4, 91, 3, 7, -615, 3, 5, 240,
        5, 6, -4, 5, 7, 702};

    private Tables() {
    }

    /** Each three numbers are the key, the group and the value of one row. */
    static RepairRange of(int... rows) {
        RepairRange table = new RepairRange();
        for (int at = 0; at < rows.length; at += 3) {
            int id = table.add(rows[at], rows[at + 1], rows[at + 2]);
            if (id != at / 3) {
                throw new IllegalStateException("a new table's add " + at / 3 + " answered " + id);
            }
        }
        return table;
    }

    static RepairRange ofKeys(int... keys) {
        int[] rows = new int[3 * keys.length];
        for (int at = 0; at < keys.length; at++) {
            rows[3 * at] = keys[at];
        }
        return of(rows);
    }

    /** The first rows of the full table, from none to all fourteen. */
    static RepairRange withRows(int count) {
        return of(Arrays.copyOf(FULL, 3 * count));
    }

    static RepairRange full() {
        return withRows(CAPACITY);
    }

    /** A table that had fourteen rows and has none now. */
    static RepairRange emptied() {
        RepairRange table = full();
        for (int id = 0; id < CAPACITY; id++) {
            table.remove(id);
        }
        return table;
    }

    /**
     * All that can be seen of a table: every answer of every question, and then some of them again as the
     * rows go out by their ids. It takes 350 of the object's calls and leaves the table empty.
     */
    static String everythingOf(RepairRange table) {
        StringBuilder seen = new StringBuilder();
        seen.append(table.groupsLeast()).append(' ').append(table.groupsMost()).append(' ');
        seen.append(table.mixedMost()).append(' ');
        for (int group = 0; group < 8; group++) {
            seen.append(table.countLeast(group)).append(' ').append(table.countMost(group)).append(' ');
            seen.append(table.sumLeast(group)).append(' ').append(table.sumMost(group)).append(' ');
        }
        for (int mask = 0; mask < 256; mask++) {
            seen.append(table.exactly(mask) ? 1 : 0);
        }
        for (int id = 0; id < CAPACITY; id++) {
            seen.append(' ').append(table.repairs()).append(' ').append(table.spreadLeast());
            seen.append(' ').append(table.middleMost()).append(' ').append(table.remove(id));
        }
        return seen.toString();
    }
}
