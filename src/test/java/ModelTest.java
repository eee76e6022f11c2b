import java.util.ArrayList;
import java.util.Arrays;
import java.util.HashMap;
import java.util.HashSet;
import java.util.List;
import java.util.Map;
import java.util.Set;
import java.util.TreeMap;
import java.util.TreeSet;

// Long runs of calls on an ExtentStore and on a second store that is written from the document in another way:
// its maps are sorted maps that have the mapped blocks alone, and a block's value goes with its number.
public final class ModelTest {
    private static final int RUNS = 2000;
    private static final int CALLS = 512;

    private long seed;

    public static void main(String[] args) {
        for (int run = 0; run < RUNS && !Check.isWrong(); run++) {
            new ModelTest(run).compare(run);
        }
        Check.end();
    }

    private ModelTest(int run) {
        seed = 0x9E3779B97F4A7C15L * (run + 1);
    }

    // A fixed rule (splitmix64), so that every run of the test makes the same calls.
    private int below(int bound) {
        seed += 0x9E3779B97F4A7C15L;
        long z = seed;
        z = (z ^ (z >>> 30)) * 0xBF58476D1CE4E5B9L;
        z = (z ^ (z >>> 27)) * 0x94D049BB133111EBL;
        return (int) Math.floorMod(z ^ (z >>> 31), (long) bound);
    }

    // Mostly 0 to count - 1, at times just or far outside.
    private int number(int count) {
        int kind = below(60);
        if (kind == 0) {
            return -1;
        }
        if (kind == 1) {
            return count;
        }
        if (kind == 2) {
            return below(2) == 0 ? Integer.MAX_VALUE : Integer.MIN_VALUE;
        }
        return below(count);
    }

    private void compare(int run) {
        int group = run % 3 == 0 ? 20 : run % 29 - 3;
        int fullness = run % 5;
        ExtentStore store = new ExtentStore(group);
        Model model = new Model(group);
        for (int call = 0; call < CALLS && !Check.isWrong(); call++) {
            oneCall("run " + run + " (group " + group + "), call " + call + ": ", fullness, store, model);
        }
    }

    private void oneCall(String at, int fullness, ExtentStore x, Model m) {
        int f = number(6);
        int b = number(32);
        int kind = below(100);
        if (kind < 15 + 10 * fullness) {
            int v = below(1000) - 100;
            Check.due(at + "write(" + f + ", " + b + ", " + v + ")", x.write(f, b, v), m.write(f, b, v));
        } else if (kind < 58) {
            changeCall(at, f, b, x, m);
        } else if (kind < 68) {
            commitCall(at, f, x, m);
        } else {
            question(at, f, b, x, m);
        }
    }

    private void changeCall(String at, int f, int b, ExtentStore x, Model m) {
        int kind = below(12);
        int count = below(4) == 0 ? number(33) : 1 + below(5);
        int s = number(3);
        if (kind < 4) {
            Check.due(at + "punch(" + f + ", " + b + ", " + count + ")", x.punch(f, b, count), m.punch(f, b, count));
        } else if (kind < 8) {
            int g = below(3) == 0 ? f : number(6);
            int a = below(2) == 0 ? b + below(5) - 2 : number(32);
            String call = "copy(" + f + ", " + a + ", " + g + ", " + b + ", " + count + ")";
            Check.due(at + call, x.copy(f, a, g, b, count), m.copy(f, a, g, b, count));
        } else if (kind < 9) {
            Check.due(at + "revert(" + f + ", " + s + ")", x.revert(f, s), m.revert(f, s));
        } else {
            Check.due(at + "gather(" + f + ")", x.gather(f), m.gather(f));
        }
    }

    private void commitCall(String at, int f, ExtentStore x, Model m) {
        int kind = below(9);
        int s = number(3);
        if (kind < 2) {
            Check.due(at + "commit()", x.commit(), m.commit());
        } else if (kind < 4) {
            Check.due(at + "crash()", x.crash(), m.crash());
        } else if (kind < 7) {
            Check.due(at + "snap(" + s + ", " + f + ")", x.snap(s, f), m.snap(s, f));
        } else {
            Check.due(at + "drop(" + s + ")", x.drop(s), m.drop(s));
        }
    }

    private void question(String at, int f, int b, ExtentStore x, Model m) {
        int kind = below(9);
        int s = number(3);
        int p = number(96);
        int what = number(3);
        switch (kind) {
            case 0, 1 -> Check.due(at + "read(" + f + ", " + b + ")", x.read(f, b), m.read(f, b));
            case 2 -> Check.due(at + "past(" + s + ", " + b + ")", x.past(s, b), m.past(s, b));
            case 3, 4 -> Check.due(at + "place(" + f + ", " + b + ")", x.place(f, b), m.place(f, b));
            case 5 -> Check.due(at + "uses(" + p + ")", x.uses(p), m.uses(p));
            case 6 -> Check.due(at + "free(" + what + ")", x.free(what), m.free(what));
            case 7 -> Check.due(at + "extents(" + f + ")", x.extents(f), m.extents(f));
            default -> Check.due(at + "changes()", x.changes(), m.changes);
        }
    }

    private static final class Model {
        final int group;
        final Map<Integer, Integer> values = new HashMap<>();
        final Map<Integer, TreeMap<Integer, Integer>> snapshots = new TreeMap<>();
        List<TreeMap<Integer, Integer>> files = new ArrayList<>();
        List<TreeMap<Integer, Integer>> committed = new ArrayList<>();
        int changes = 0;

        Model(int group) {
            this.group = Math.max(1, Math.min(20, group));
            for (int f = 0; f < 6; f++) {
                files.add(new TreeMap<>());
                committed.add(new TreeMap<>());
            }
        }

        static boolean within(int n, int count) {
            return 0 <= n && n < count;
        }

        TreeSet<Integer> freeBlocks() {
            Set<Integer> used = new HashSet<>();
            files.forEach(map -> used.addAll(map.values()));
            committed.forEach(map -> used.addAll(map.values()));
            snapshots.values().forEach(map -> used.addAll(map.values()));
            TreeSet<Integer> free = new TreeSet<>();
            for (int p = 0; p < 96; p++) {
                if (!used.contains(p)) {
                    free.add(p);
                }
            }
            return free;
        }

        List<Integer> allUsers() {
            List<Integer> users = new ArrayList<>();
            files.forEach(map -> users.addAll(map.values()));
            snapshots.values().forEach(map -> users.addAll(map.values()));
            return users;
        }

        boolean inCommitted(int p) {
            return committed.stream().anyMatch(map -> map.containsValue(p));
        }

        int usersOf(int p) {
            return (int) allUsers().stream().filter(user -> user == p).count();
        }

        boolean changed() {
            changes++;
            if (changes == group) {
                commit();
            }
            return true;
        }

        boolean write(int f, int b, int v) {
            if (!within(f, 6) || !within(b, 32)) {
                return false;
            }
            TreeMap<Integer, Integer> file = files.get(f);
            Integer p = file.get(b);
            if (p == null || usersOf(p) > 1 || inCommitted(p)) {
                TreeSet<Integer> free = freeBlocks();
                if (free.isEmpty()) {
                    return false;
                }
                Map.Entry<Integer, Integer> before = file.lowerEntry(b);
                int goal = before == null ? 16 * f : (before.getValue() + 1) % 96;
                p = free.ceiling(goal);
                if (p == null) {
                    p = free.first();
                }
                file.put(b, p);
            }
            values.put(p, v);
            return changed();
        }

        int valueOf(Map<Integer, Integer> map, int b) {
            Integer p = map == null ? null : map.get(b);
            return p == null ? 0 : values.get(p);
        }

        int read(int f, int b) {
            return within(f, 6) ? valueOf(files.get(f), b) : 0;
        }

        int past(int s, int b) {
            return valueOf(snapshots.get(s), b);
        }

        int place(int f, int b) {
            return within(f, 6) ? files.get(f).getOrDefault(b, -1) : -1;
        }

        boolean punch(int f, int b, int count) {
            if (!within(f, 6) || !within(b, 32) || count < 1) {
                return false;
            }
            long end = (long) b + count;
            files.get(f).keySet().removeIf(block -> block >= b && block < end);
            return changed();
        }

        boolean copy(int f, int a, int g, int b, int count) {
            boolean inside = a >= 0 && b >= 0 && (long) a + count <= 32 && (long) b + count <= 32;
            if (!within(f, 6) || !within(g, 6) || count < 1 || !inside) {
                return false;
            }
            TreeMap<Integer, Integer> source = new TreeMap<>(files.get(f));
            for (int i = 0; i < count; i++) {
                Integer p = source.get(a + i);
                if (p == null) {
                    files.get(g).remove(b + i);
                } else {
                    files.get(g).put(b + i, p);
                }
            }
            return changed();
        }

        int otherwise() {
            int count = 0;
            for (int f = 0; f < 6; f++) {
                for (int b = 0; b < 32; b++) {
                    int now = files.get(f).getOrDefault(b, -1);
                    int then = committed.get(f).getOrDefault(b, -1);
                    count += now == then ? 0 : 1;
                }
            }
            return count;
        }

        static List<TreeMap<Integer, Integer>> copyOf(List<TreeMap<Integer, Integer>> maps) {
            List<TreeMap<Integer, Integer>> copies = new ArrayList<>();
            maps.forEach(map -> copies.add(new TreeMap<>(map)));
            return copies;
        }

        int commit() {
            int count = otherwise();
            committed = copyOf(files);
            changes = 0;
            return count;
        }

        int crash() {
            int count = otherwise();
            files = copyOf(committed);
            changes = 0;
            return count;
        }

        boolean snap(int s, int f) {
            if (!within(s, 3) || snapshots.containsKey(s) || !within(f, 6)) {
                return false;
            }
            commit();
            snapshots.put(s, new TreeMap<>(files.get(f)));
            return true;
        }

        boolean drop(int s) {
            if (!snapshots.containsKey(s)) {
                return false;
            }
            commit();
            snapshots.remove(s);
            return true;
        }

        boolean revert(int f, int s) {
            if (!within(f, 6) || !snapshots.containsKey(s)) {
                return false;
            }
            files.set(f, new TreeMap<>(snapshots.get(s)));
            return changed();
        }

        boolean gather(int f) {
            if (!within(f, 6) || files.get(f).isEmpty() || extents(f) == 1) {
                return false;
            }
            TreeMap<Integer, Integer> file = files.get(f);
            TreeSet<Integer> free = freeBlocks();
            for (int start : free) {
                if (free.subSet(start, start + file.size()).size() == file.size()) {
                    int p = start;
                    for (int b : new ArrayList<>(file.keySet())) {
                        values.put(p, values.get(file.get(b)));
                        file.put(b, p);
                        p++;
                    }
                    return changed();
                }
            }
            return false;
        }

        int uses(int p) {
            if (!within(p, 96)) {
                return -1;
            }
            return usersOf(p) + (freeBlocks().contains(p) ? 0 : 100);
        }

        // The lengths of the rows, in the order in which they stand on the disk.
        List<Integer> freeRows() {
            List<Integer> rows = new ArrayList<>();
            TreeSet<Integer> free = freeBlocks();
            for (int p : free) {
                if (free.contains(p - 1)) {
                    int last = rows.size() - 1;
                    rows.set(last, rows.get(last) + 1);
                } else {
                    rows.add(1);
                }
            }
            return rows;
        }

        int free(int what) {
            if (!within(what, 3)) {
                return -1;
            }
            List<Integer> rows = freeRows();
            int longest = rows.stream().mapToInt(row -> row).max().orElse(0);
            int total = rows.stream().mapToInt(row -> row).sum();
            return Arrays.asList(total, longest, rows.size()).get(what);
        }

        int extents(int f) {
            if (!within(f, 6)) {
                return -1;
            }
            Set<List<Integer>> pairs = new HashSet<>();
            files.get(f).forEach((b, p) -> pairs.add(List.of(b, p)));
            return (int) pairs.stream().filter(pair -> !pairs.contains(List.of(pair.get(0) - 1, pair.get(1) - 1))).count();
        }
    }
}
