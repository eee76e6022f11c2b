public final class ExtentStore {
    private static final int DISK_BLOCKS = 96;
    private static final int FILES = 6;
    private static final int SNAPSHOTS = 3;
    private static final int BLOCKS = 32;
    private static final int FILE_SLOTS = 192;
    private static final int SNAPSHOT_SLOTS = 96;
    private static final int GREATEST_GROUP = 20;
    private static final int GOAL_STEP = 16;
    private static final int IN_USE_MARK = 100;
    private static final int NONE = -1;

    private final int group;
    private int changesMade;

    private final int[] values = new int[DISK_BLOCKS];

    // A map's slot (file or snapshot) * BLOCKS + logical block holds a physical block, or NONE for a hole.
    private final int[] files = new int[FILE_SLOTS];
    private final int[] committed = new int[FILE_SLOTS];
    // A snapshot that is not there has holes alone, so that counting needs no look at isThere.
    private final int[] snapshots = new int[SNAPSHOT_SLOTS];
    private final boolean[] isThere = new boolean[SNAPSHOTS];

    // Right only after markInUse: made anew from the maps when it is needed, so that it can't drift from them.
    private final boolean[] inUse = new boolean[DISK_BLOCKS];

    public ExtentStore(int group) {
        this.group = group < 1 ? 1 : group > GREATEST_GROUP ? GREATEST_GROUP : group;
        for (int slot = 0; slot < FILE_SLOTS; slot++) {
            files[slot] = NONE;
            committed[slot] = NONE;
        }
        for (int slot = 0; slot < SNAPSHOT_SLOTS; slot++) {
            snapshots[slot] = NONE;
        }
    }

    public boolean write(int f, int b, int v) {
        if (!isFile(f) || !isBlock(b)) {
            return false;
        }
        int slot = f * BLOCKS + b;
        int p = isOwn(slot) ? files[slot] : freeBlockFor(f, b);
        if (p == NONE) {
            return false;
        }
        files[slot] = p;
        values[p] = v;
        countChange();
        return true;
    }

    public int read(int f, int b) {
        if (!isFile(f) || !isBlock(b)) {
            return 0;
        }
        return valueAt(files[f * BLOCKS + b]);
    }

    public boolean punch(int f, int b, int count) {
        if (!isFile(f) || !isBlock(b) || count < 1) {
            return false;
        }
        int length = count > BLOCKS - b ? BLOCKS - b : count;
        makeHoles(files, f * BLOCKS + b, length);
        countChange();
        return true;
    }

    public boolean copy(int f, int a, int g, int b, int count) {
        if (!isFile(f) || !isFile(g) || !isRange(a, count) || !isRange(b, count)) {
            return false;
        }
        copySlots(files, f * BLOCKS + a, files, g * BLOCKS + b, count);
        countChange();
        return true;
    }

    public int commit() {
        return commitFiles();
    }

    public int crash() {
        changesMade = 0;
        return replaceMaps(files, committed);
    }

    public boolean snap(int s, int f) {
        if (!isSnapshot(s) || isThere[s] || !isFile(f)) {
            return false;
        }
        commitFiles();
        copySlots(files, f * BLOCKS, snapshots, s * BLOCKS, BLOCKS);
        isThere[s] = true;
        return true;
    }

    public boolean drop(int s) {
        if (!isSnapshot(s) || !isThere[s]) {
            return false;
        }
        commitFiles();
        makeHoles(snapshots, s * BLOCKS, BLOCKS);
        isThere[s] = false;
        return true;
    }

    public boolean revert(int f, int s) {
        if (!isFile(f) || !isSnapshot(s) || !isThere[s]) {
            return false;
        }
        copySlots(snapshots, s * BLOCKS, files, f * BLOCKS, BLOCKS);
        countChange();
        return true;
    }

    public boolean gather(int f) {
        if (!isFile(f)) {
            return false;
        }
        int n = countMapped(f);
        if (n == 0 || countExtents(f) == 1) {
            return false;
        }
        int start = leastFreeRow(n);
        if (start == NONE) {
            return false;
        }
        moveFile(f, start);
        countChange();
        return true;
    }

    public int past(int s, int b) {
        if (!isSnapshot(s) || !isBlock(b)) {
            return 0;
        }
        return valueAt(snapshots[s * BLOCKS + b]);
    }

    public int place(int f, int b) {
        if (!isFile(f) || !isBlock(b)) {
            return NONE;
        }
        return files[f * BLOCKS + b];
    }

    public int uses(int p) {
        if (p < 0 || p >= DISK_BLOCKS) {
            return -1;
        }
        int users = countUsers(p);
        boolean used = users > 0 || isCommitted(p);
        return used ? users + IN_USE_MARK : users;
    }

    public int free(int what) {
        if (what < 0 || what > 2) {
            return -1;
        }
        markInUse();
        int total = 0;
        int longest = 0;
        int rows = 0;
        int row = 0;
        for (int p = 0; p < DISK_BLOCKS; p++) {
            row = inUse[p] ? 0 : row + 1;
            total += row > 0 ? 1 : 0;
            rows += row == 1 ? 1 : 0;
            longest = row > longest ? row : longest;
        }
        return what == 0 ? total : what == 1 ? longest : rows;
    }

    public int extents(int f) {
        return isFile(f) ? countExtents(f) : -1;
    }

    public int changes() {
        return changesMade;
    }

    private boolean isFile(int f) {
        return f >= 0 && f < FILES;
    }

    private boolean isSnapshot(int s) {
        return s >= 0 && s < SNAPSHOTS;
    }

    private boolean isBlock(int b) {
        return b >= 0 && b < BLOCKS;
    }

    // Compares count with the room left, as start + count could wrap around.
    private boolean isRange(int start, int count) {
        return isBlock(start) && count >= 1 && count <= BLOCKS - start;
    }

    private int valueAt(int p) {
        return p == NONE ? 0 : values[p];
    }

    private void countChange() {
        changesMade++;
        if (changesMade >= group) {
            commitFiles();
        }
    }

    private int commitFiles() {
        changesMade = 0;
        return replaceMaps(committed, files);
    }

    private int replaceMaps(int[] old, int[] fresh) {
        int differing = 0;
        for (int slot = 0; slot < FILE_SLOTS; slot++) {
            if (old[slot] != fresh[slot]) {
                differing++;
                old[slot] = fresh[slot];
            }
        }
        return differing;
    }

    private void makeHoles(int[] map, int start, int count) {
        for (int i = 0; i < count; i++) {
            map[start + i] = NONE;
        }
    }

    // Where source and target overlap, the order sees to it that each slot is read before it is replaced.
    private void copySlots(int[] from, int source, int[] to, int target, int count) {
        if (target > source) {
            for (int i = count - 1; i >= 0; i--) {
                to[target + i] = from[source + i];
            }
        } else {
            for (int i = 0; i < count; i++) {
                to[target + i] = from[source + i];
            }
        }
    }

    private boolean isOwn(int slot) {
        int p = files[slot];
        return p != NONE && countUsers(p) == 1 && !isCommitted(p);
    }

    private int countUsers(int p) {
        int users = 0;
        for (int slot = 0; slot < FILE_SLOTS; slot++) {
            users += files[slot] == p ? 1 : 0;
        }
        for (int slot = 0; slot < SNAPSHOT_SLOTS; slot++) {
            users += snapshots[slot] == p ? 1 : 0;
        }
        return users;
    }

    private boolean isCommitted(int p) {
        for (int slot = 0; slot < FILE_SLOTS; slot++) {
            if (committed[slot] == p) {
                return true;
            }
        }
        return false;
    }

    private void markInUse() {
        for (int p = 0; p < DISK_BLOCKS; p++) {
            inUse[p] = false;
        }
        for (int slot = 0; slot < FILE_SLOTS; slot++) {
            markBlock(files[slot]);
            markBlock(committed[slot]);
        }
        for (int slot = 0; slot < SNAPSHOT_SLOTS; slot++) {
            markBlock(snapshots[slot]);
        }
    }

    private void markBlock(int p) {
        if (p != NONE) {
            inUse[p] = true;
        }
    }

    private int freeBlockFor(int f, int b) {
        markInUse();
        int goal = goalFor(f, b);
        int p = leastFreeFrom(goal);
        return p == NONE ? leastFreeFrom(0) : p;
    }

    private int goalFor(int f, int b) {
        for (int before = b - 1; before >= 0; before--) {
            int p = files[f * BLOCKS + before];
            if (p != NONE) {
                return p + 1 == DISK_BLOCKS ? 0 : p + 1;
            }
        }
        return GOAL_STEP * f;
    }

    private int leastFreeFrom(int start) {
        for (int p = start; p < DISK_BLOCKS; p++) {
            if (!inUse[p]) {
                return p;
            }
        }
        return NONE;
    }

    private int leastFreeRow(int length) {
        markInUse();
        int row = 0;
        for (int p = 0; p < DISK_BLOCKS; p++) {
            row = inUse[p] ? 0 : row + 1;
            if (row == length) {
                return p - length + 1;
            }
        }
        return NONE;
    }

    private int countMapped(int f) {
        int mapped = 0;
        for (int b = 0; b < BLOCKS; b++) {
            mapped += files[f * BLOCKS + b] == NONE ? 0 : 1;
        }
        return mapped;
    }

    private int countExtents(int f) {
        int runs = 0;
        int last = NONE;
        for (int b = 0; b < BLOCKS; b++) {
            int p = files[f * BLOCKS + b];
            boolean follows = last != NONE && p == last + 1;
            runs += p == NONE || follows ? 0 : 1;
            last = p;
        }
        return runs;
    }

    private void moveFile(int f, int start) {
        int p = start;
        for (int b = 0; b < BLOCKS; b++) {
            int slot = f * BLOCKS + b;
            if (files[slot] != NONE) {
                values[p] = values[files[slot]];
                files[slot] = p;
                p++;
            }
        }
    }
}
