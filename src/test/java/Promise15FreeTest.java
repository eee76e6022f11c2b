public final class Promise15FreeTest {
    public static void main(String[] args) {
        totalsAndRows();
        everyOtherBlock();
        committedAndSnapshotBlocksAreNotFree();
        wrongInputs();
        Check.end();
    }

    private static void freeIs(ExtentStore x, String when, int total, int longest, int rows) {
        Check.due("free(0) " + when, x.free(0), total);
        Check.due("free(1) " + when, x.free(1), longest);
        Check.due("free(2) " + when, x.free(2), rows);
    }

    private static void totalsAndRows() {
        ExtentStore x = new ExtentStore(20);
        freeIs(x, "at first", 96, 96, 1);
        x.write(2, 0, 1);
        freeIs(x, "with 32 taken", 95, 63, 2);
        x.write(5, 0, 1);
        freeIs(x, "with 32 and 80 taken", 94, 47, 3);
        x.write(0, 0, 1);
        freeIs(x, "with 0, 32 and 80 taken", 93, 47, 3);
        x.copy(0, 0, 1, 0, 1);
        freeIs(x, "with a shared one", 93, 47, 3);
        x.punch(2, 0, 1);
        freeIs(x, "with 0 and 80 taken", 94, 79, 2);
    }

    private static void everyOtherBlock() {
        ExtentStore x = new ExtentStore(20);
        Check.fillDisk(x);
        freeIs(x, "on a full disk", 0, 0, 0);
        for (int i = 1; i < 96; i += 2) {
            x.punch(i / 32, i % 32, 1);
        }
        x.commit();
        freeIs(x, "with every other one", 48, 1, 48);
        x.punch(0, 0, 1);
        x.punch(2, 30, 1);
        x.commit();
        freeIs(x, "with rows at both ends", 50, 3, 47);
    }

    private static void committedAndSnapshotBlocksAreNotFree() {
        ExtentStore x = new ExtentStore(20);
        x.write(0, 0, 1);
        x.write(0, 1, 1);
        x.snap(0, 0);
        x.punch(0, 0, 2);
        freeIs(x, "with the snapshot and the commit", 94, 94, 1);
        x.commit();
        freeIs(x, "with the snapshot", 94, 94, 1);
        x.drop(0);
        freeIs(x, "without", 96, 96, 1);
        x.write(1, 0, 1);
        x.commit();
        x.punch(1, 0, 1);
        freeIs(x, "with the commit", 95, 79, 2);
        x.commit();
        freeIs(x, "without", 96, 96, 1);
    }

    private static void wrongInputs() {
        ExtentStore x = new ExtentStore(20);
        int[] wrong = {-1, 3, 4, Integer.MAX_VALUE, Integer.MIN_VALUE};
        for (int what : wrong) {
            Check.due("free(" + what + ")", x.free(what), -1);
        }
    }
}
