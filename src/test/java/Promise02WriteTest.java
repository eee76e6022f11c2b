public final class Promise02WriteTest {
    public static void main(String[] args) {
        goalOfEachFile();
        goalFollowsTheNearestMappedBlockBefore();
        goalPastTheDiskIsZero();
        takenGoalGivesTheNextThenTheLeast();
        ownBlockIsWrittenInPlace();
        sharedBlocksAreNeverOverwritten();
        fullDisk();
        Check.same("wrong writes", Promise02WriteTest::oneBlock, Promise02WriteTest::oneBlockAndRefusing);
        Check.end();
    }

    private static void goalOfEachFile() {
        ExtentStore x = new ExtentStore(20);
        for (int f = 0; f < 6; f++) {
            Check.yes("write", x.write(f, 31 - f, f + 7));
            Check.due("first place of file " + f, x.place(f, 31 - f), 16 * f);
            Check.due("value of file " + f, x.read(f, 31 - f), f + 7);
        }
        Check.yes("write", x.write(5, 0, Integer.MIN_VALUE));
        Check.due("16 f also before a mapped block, if taken the next", x.place(5, 0), 81);
        Check.due("least int", x.read(5, 0), Integer.MIN_VALUE);
        Check.yes("write", x.write(5, 31, Integer.MAX_VALUE));
        Check.due("greatest int", x.read(5, 31), Integer.MAX_VALUE);
    }

    private static void goalFollowsTheNearestMappedBlockBefore() {
        ExtentStore x = new ExtentStore(20);
        x.write(2, 10, 1);
        x.write(2, 4, 2);
        Check.due("place(2, 10)", x.place(2, 10), 32);
        Check.due("place(2, 4)", x.place(2, 4), 33);
        x.write(2, 20, 3);
        Check.due("goal after block 10 at 32 is 33, which is taken", x.place(2, 20), 34);
        x.write(2, 7, 4);
        Check.due("goal after block 4 at 33 is 34, which is taken", x.place(2, 7), 35);
        x.write(2, 8, 5);
        Check.due("goal after block 7 at 35", x.place(2, 8), 36);
        x.write(1, 8, 6);
        Check.due("another file's blocks do not matter", x.place(1, 8), 16);
    }

    private static void goalPastTheDiskIsZero() {
        ExtentStore x = new ExtentStore(20);
        for (int i = 0; i < 16; i++) {
            x.write(5, i, i);
        }
        Check.due("place(5, 15)", x.place(5, 15), 95);
        x.write(5, 16, 1);
        Check.due("the goal after 95 is 0", x.place(5, 16), 0);
        x.write(5, 17, 1);
        Check.due("place(5, 17)", x.place(5, 17), 1);
        Check.due("95 and 0 do not follow one another", x.extents(5), 2);
        x.copy(5, 15, 2, 3, 1);
        x.write(2, 4, 1);
        Check.due("0 for every file, not 16 f; 0 and 1 are taken", x.place(2, 4), 2);
    }

    private static void takenGoalGivesTheNextThenTheLeast() {
        ExtentStore x = new ExtentStore(20);
        Check.fillDisk(x);
        x.punch(0, 3, 1);
        x.punch(0, 9, 1);
        x.punch(2, 20, 1);
        x.commit();
        Check.due("free(0)", x.free(0), 3);
        x.write(3, 0, 1);
        Check.due("goal 48 taken: the least above it", x.place(3, 0), 84);
        x.write(4, 0, 1);
        Check.due("goal 64 taken, none above: the least", x.place(4, 0), 3);
        x.write(4, 1, 1);
        Check.due("goal 4 taken: the least above it", x.place(4, 1), 9);
    }

    private static void ownBlockIsWrittenInPlace() {
        ExtentStore x = new ExtentStore(20);
        x.write(0, 0, 1);
        x.write(0, 0, 2);
        Check.due("place of an own block", x.place(0, 0), 0);
        Check.due("value of an own block", x.read(0, 0), 2);
        Check.due("a write in place counts as a change", x.changes(), 2);
        x.commit();
        x.write(0, 0, 3);
        Check.due("a committed block is not own", x.place(0, 0), 1);
        x.write(0, 0, 4);
        Check.due("the new one is", x.place(0, 0), 1);
        Check.due("the committed one stays in use", x.uses(0), 100);
        Check.due("crash()", x.crash(), 1);
        Check.due("the committed value", x.read(0, 0), 2);
        Check.due("free again", x.uses(1), 0);
    }

    private static void sharedBlocksAreNeverOverwritten() {
        ExtentStore x = new ExtentStore(20);
        x.write(1, 0, 1);
        x.copy(1, 0, 2, 0, 1);
        x.write(1, 0, 2);
        Check.due("shared with a file: moved", x.place(1, 0), 17);
        Check.due("the other file's value", x.read(2, 0), 1);
        x.write(2, 0, 3);
        Check.due("alone again: in place", x.place(2, 0), 16);
        x.copy(2, 0, 2, 5, 1);
        x.write(2, 5, 4);
        Check.due("shared inside one file: moved after the block before", x.place(2, 5), 18);
        Check.due("the other block's value", x.read(2, 0), 3);

        ExtentStore y = new ExtentStore(20);
        y.write(0, 0, 1);
        y.snap(0, 0);
        y.punch(0, 0, 1);
        y.commit();
        y.revert(0, 0);
        y.write(0, 0, 2);
        Check.due("shared with a snapshot: moved", y.place(0, 0), 1);
        Check.due("the snapshot's value", y.past(0, 0), 1);

        ExtentStore z = new ExtentStore(20);
        z.write(3, 0, 1);
        z.commit();
        z.copy(3, 0, 4, 0, 1);
        z.punch(3, 0, 1);
        z.write(4, 0, 2);
        Check.due("committed for another file: moved to 16 f", z.place(4, 0), 64);
        z.crash();
        Check.due("the committed value", z.read(3, 0), 1);
    }

    private static ExtentStore full() {
        ExtentStore x = new ExtentStore(20);
        Check.fillDisk(x);
        return x;
    }

    private static ExtentStore fullAndRefusing() {
        ExtentStore x = full();
        Check.no("write to a hole", x.write(5, 0, 7));
        Check.no("write to a committed block", x.write(0, 0, 7));
        return x;
    }

    private static void fullDisk() {
        Check.same("writes on a full disk", Promise02WriteTest::full, Promise02WriteTest::fullAndRefusing);
        ExtentStore x = full();
        Check.due("16 changes after 4 commits", x.changes(), 16);
        Check.yes("an own block can be written", x.write(2, 31, 7));
        Check.due("in place", x.place(2, 31), 95);
        Check.due("its value", x.read(2, 31), 7);
        x.copy(2, 31, 5, 0, 1);
        Check.no("a shared one can't", x.write(2, 31, 8));
        Check.no("from neither side", x.write(5, 0, 8));
        Check.yes("punch of an uncommitted block frees it", x.punch(2, 30, 1));
        Check.yes("write", x.write(5, 0, 9));
        Check.due("the one free block", x.place(5, 0), 94);
    }

    private static ExtentStore oneBlock() {
        ExtentStore x = new ExtentStore(20);
        x.write(0, 0, 1);
        return x;
    }

    private static ExtentStore oneBlockAndRefusing() {
        ExtentStore x = oneBlock();
        int[][] wrong = {{-1, 0}, {6, 0}, {0, -1}, {0, 32}, {5, 32}, {Integer.MAX_VALUE, 0}, {Integer.MIN_VALUE, 0},
            {0, Integer.MAX_VALUE}, {0, Integer.MIN_VALUE}, {1, -32}, {-1, 32}, {1 << 27, 0}};
        for (int[] w : wrong) {
            Check.no("write(" + w[0] + ", " + w[1] + ", 5)", x.write(w[0], w[1], 5));
        }
        return x;
    }
}
