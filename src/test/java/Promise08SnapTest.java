public final class Promise08SnapTest {
    public static void main(String[] args) {
        commitsAndKeepsTheMap();
        everySnapshotAndFile();
        emptySnapshotIsThere();
        refusals();
        Check.end();
    }

    private static void commitsAndKeepsTheMap() {
        ExtentStore x = new ExtentStore(20);
        x.write(1, 0, 1);
        x.write(1, 31, 2);
        x.write(2, 0, 3);
        Check.yes("snap(0, 1)", x.snap(0, 1));
        Check.due("it is no change, and commits", x.changes(), 0);
        Check.due("all files are committed", x.crash(), 0);
        Check.due("read(2, 0)", x.read(2, 0), 3);
        Check.due("file and snapshot", x.uses(16), 102);
        Check.due("file alone", x.uses(32), 101);
        x.write(1, 0, 10);
        x.punch(1, 31, 1);
        x.commit();
        Check.due("past(0, 0)", x.past(0, 0), 1);
        Check.due("past(0, 31)", x.past(0, 31), 2);
        Check.due("the snapshot alone", x.uses(17), 101);
        Check.due("free(0)", x.free(0), 92);
    }

    private static void everySnapshotAndFile() {
        ExtentStore x = new ExtentStore(20);
        for (int f = 0; f < 6; f++) {
            x.write(f, f, f + 1);
        }
        Check.yes("snap(0, 0)", x.snap(0, 0));
        Check.yes("snap(1, 5)", x.snap(1, 5));
        Check.yes("snap(2, 5)", x.snap(2, 5));
        Check.due("past(0, 0)", x.past(0, 0), 1);
        Check.due("past(1, 5)", x.past(1, 5), 6);
        Check.due("past(2, 5)", x.past(2, 5), 6);
        Check.due("past(1, 0)", x.past(1, 0), 0);
        Check.due("uses(80)", x.uses(80), 103);
    }

    private static void emptySnapshotIsThere() {
        ExtentStore x = new ExtentStore(20);
        Check.yes("snap(2, 3)", x.snap(2, 3));
        Check.no("snap(2, 3) again", x.snap(2, 3));
        x.write(0, 0, 1);
        Check.yes("revert(0, 2)", x.revert(0, 2));
        Check.due("place(0, 0)", x.place(0, 0), -1);
        Check.yes("drop(2)", x.drop(2));
    }

    private static ExtentStore oneThere() {
        ExtentStore x = new ExtentStore(20);
        x.write(0, 0, 1);
        x.snap(1, 0);
        x.write(0, 1, 2);
        return x;
    }

    private static ExtentStore oneThereAndRefusing() {
        ExtentStore x = oneThere();
        int[][] wrong = {{-1, 0}, {3, 0}, {1, 0}, {1, 2}, {0, -1}, {0, 6}, {2, 6}, {Integer.MAX_VALUE, 0},
            {Integer.MIN_VALUE, 0}, {0, Integer.MAX_VALUE}, {0, Integer.MIN_VALUE}};
        for (int[] w : wrong) {
            Check.no("snap(" + w[0] + ", " + w[1] + ")", x.snap(w[0], w[1]));
        }
        return x;
    }

    private static void refusals() {
        Check.same("wrong snaps", Promise08SnapTest::oneThere, Promise08SnapTest::oneThereAndRefusing);
        ExtentStore x = oneThereAndRefusing();
        Check.due("a refused one commits nothing", x.crash(), 1);
        Check.no("a refused one makes no snapshot", x.revert(0, 0));
        Check.no("a refused one makes no snapshot", x.revert(0, 2));
    }
}
