import java.util.ArrayList;
import java.util.Collections;
import java.util.HashSet;
import java.util.List;
import java.util.Set;
import java.util.TreeMap;

/**
 * Long runs of calls, every answer compared with a model that lists all repairs outright. Each object is
 * used for 512 calls, the most that the document allows; the runs are the same every time.
 */
public final class ModelTest {
    private static final int CALLS = 512;
    private static final int RUNS = 600;
    private static final int NONE = RepairRange.NONE;
    private static final int[] ODD = {-1, 6, 8, 14, 1001, -1001, Integer.MIN_VALUE, Integer.MAX_VALUE};
    private static final Checks checks = new Checks();

    private static long seed = 0;

    private final RepairRange table = new RepairRange();
    private final TreeMap<Integer, int[]> rows = new TreeMap<>();
    private List<List<int[]>> repairs = listRepairs();
    private final int keys;
    private final int groups;
    private final int reach;
    private final String name;

    private ModelTest(int run) {
        name = "run " + run + ": ";
        keys = 1 + run % 6;
        groups = 1 + (run / 6) % 8;
        reach = new int[] {1, 10, 1000}[run % 3];
    }

    public static void main(String[] args) {
        for (int run = 0; run < RUNS; run++) {
            seed = run;
            ModelTest model = new ModelTest(run);
            for (int call = 0; call < CALLS; call++) {
                model.call();
            }
        }
        checks.end();
    }

    private static int below(int bound) {
        seed = seed * 6364136223846793005L + 1442695040888963407L;
        return (int) ((seed >>> 33) % bound);
    }

    private static int mostlyBelow(int bound) {
        return below(25) == 0 ? ODD[below(ODD.length)] : below(bound);
    }

    private void call() {
        int kind = below(20);
        if (kind < 5) {
            add(mostlyBelow(keys), mostlyBelow(groups), mostlyBelow(2 * reach + 1) - reach);
        } else if (kind < 8) {
            remove(mostlyBelow(14));
        } else {
            ask(kind - 8);
        }
    }

    private void add(int key, int group, int value) {
        int due = addDue(key, group, value);
        if (due >= 0) {
            rows.put(due, new int[] {key, group, value});
            repairs = listRepairs();
        }
        checks.due(name + "add(" + key + ", " + group + ", " + value + ")", table.add(key, group, value), due);
    }

    private int addDue(int key, int group, int value) {
        if (key < 0 || key > 5) {
            return RepairRange.BAD_KEY;
        }
        if (group < 0 || group > 7) {
            return RepairRange.BAD_GROUP;
        }
        if (value < -1000 || value > 1000) {
            return RepairRange.BAD_VALUE;
        }
        int id = 0;
        while (rows.containsKey(id)) {
            id++;
        }
        return id < 14 ? id : RepairRange.FULL;
    }

    private void remove(int id) {
        int due = rows.remove(id) == null ? RepairRange.NO_ROW : rows.size();
        repairs = listRepairs();
        checks.due(name + "remove(" + id + ")", table.remove(id), due);
    }

    private void ask(int question) {
        int group = mostlyBelow(8);
        switch (question) {
            case 0 -> checks.due(name + "repairs()", table.repairs(), repairs.size());
            case 1 -> checks.due(name + "countLeast(" + group + ")", table.countLeast(group), counts(group, false));
            case 2 -> checks.due(name + "countMost(" + group + ")", table.countMost(group), counts(group, true));
            case 3 -> checks.due(name + "sumLeast(" + group + ")", table.sumLeast(group), sums(group, false));
            case 4 -> checks.due(name + "sumMost(" + group + ")", table.sumMost(group), sums(group, true));
            case 5 -> checks.due(name + "groupsLeast()", table.groupsLeast(), groupNumbers(false));
            case 6 -> checks.due(name + "groupsMost()", table.groupsMost(), groupNumbers(true));
            case 7 -> checks.due(name + "spreadLeast()", table.spreadLeast(), spread());
            case 8 -> checks.due(name + "middleMost()", table.middleMost(), middle());
            case 9 -> checks.due(name + "mixedMost()", table.mixedMost(), mixed());
            default -> askExactly();
        }
    }

    private void askExactly() {
        List<int[]> repair = repairs.get(below(repairs.size()));
        int mask = below(8) << 8;
        for (int group : groupsOf(repair)) {
            mask |= 1 << group;
        }
        if (below(2) == 0) {
            mask ^= 1 << below(32);
        }
        checks.due(name + "exactly(" + mask + ")", table.exactly(mask), exactly(mask));
    }

    private List<List<int[]>> listRepairs() {
        List<List<int[]>> all = new ArrayList<>();
        all.add(new ArrayList<>());
        for (int key = 0; key < 6; key++) {
            List<List<int[]>> longer = new ArrayList<>();
            for (List<int[]> start : all) {
                for (int[] row : rows.values()) {
                    if (row[0] == key) {
                        List<int[]> next = new ArrayList<>(start);
                        next.add(row);
                        longer.add(next);
                    }
                }
            }
            all = longer.isEmpty() ? all : longer;
        }
        return all;
    }

    private static int edge(List<Integer> answers, boolean most) {
        if (answers.isEmpty()) {
            return NONE;
        }
        return most ? Collections.max(answers) : Collections.min(answers);
    }

    private static boolean wrongGroup(int group) {
        return group < 0 || group > 7;
    }

    private int counts(int group, boolean most) {
        List<Integer> answers = new ArrayList<>();
        for (List<int[]> repair : repairs) {
            answers.add((int) repair.stream().filter(row -> row[1] == group).count());
        }
        return wrongGroup(group) ? NONE : edge(answers, most);
    }

    private int sums(int group, boolean most) {
        List<Integer> answers = new ArrayList<>();
        for (List<int[]> repair : repairs) {
            answers.add(repair.stream().filter(row -> row[1] == group).mapToInt(row -> row[2]).sum());
        }
        return wrongGroup(group) ? NONE : edge(answers, most);
    }

    private static Set<Integer> groupsOf(List<int[]> repair) {
        Set<Integer> met = new HashSet<>();
        for (int[] row : repair) {
            met.add(row[1]);
        }
        return met;
    }

    private int groupNumbers(boolean most) {
        List<Integer> answers = new ArrayList<>();
        for (List<int[]> repair : repairs) {
            answers.add(groupsOf(repair).size());
        }
        return edge(answers, most);
    }

    private static int[] sortedValues(List<int[]> repair) {
        return repair.stream().mapToInt(row -> row[2]).sorted().toArray();
    }

    private int spread() {
        List<Integer> answers = new ArrayList<>();
        for (List<int[]> repair : repairs) {
            int[] values = sortedValues(repair);
            if (values.length > 0) {
                answers.add(values[values.length - 1] - values[0]);
            }
        }
        return edge(answers, false);
    }

    private int middle() {
        List<Integer> answers = new ArrayList<>();
        for (List<int[]> repair : repairs) {
            int[] values = sortedValues(repair);
            if (values.length > 0) {
                answers.add(values[(values.length - 1) / 2]);
            }
        }
        return edge(answers, true);
    }

    private int mixed() {
        List<Integer> answers = new ArrayList<>();
        for (List<int[]> repair : repairs) {
            if (!repair.isEmpty() && groupsOf(repair).size() == repair.size()) {
                answers.add(repair.stream().mapToInt(row -> row[2]).sum());
            }
        }
        return edge(answers, true);
    }

    private boolean exactly(int mask) {
        for (List<int[]> repair : repairs) {
            Set<Integer> wanted = new HashSet<>();
            for (int group = 0; group < 8; group++) {
                if (((mask >> group) & 1) == 1) {
                    wanted.add(group);
                }
            }
            if (groupsOf(repair).equals(wanted)) {
                return true;
            }
        }
        return false;
    }
}
