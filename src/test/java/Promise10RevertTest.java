public final class Promise10RevertTest {
    public static void main(String[] args) {
        getsTheSnapshotsMap();
        anotherFile();
        countsTowardsGroup();
        Check.same("wrong reverts", Promise10RevertTest::oneThere, Promise10RevertTest::oneThereAndRefusing);
        Check.end();
    }

    private static void getsTheSnapshotsMap() {
        ExtentStore x = new ExtentStore(20);
        x.write(1, 0, 1);
        x.write(1, 5, 2);
        x.snap(2, 1);
        x.write(1, 0, 9);
        x.write(1, 7, 9);
        x.punch(1, 5, 1);
        Check.yes("revert(1, 2)", x.revert(1, 2));
        Check.due("place(1, 0)", x.place(1, 0), 16);
        Check.due("place(1, 5)", x.place(1, 5), 17);
        Check.due("what the snapshot has not is a hole", x.place(1, 7), -1);
        Check.due("read(1, 0)", x.read(1, 0), 1);
        Check.due("it is a change", x.changes(), 4);
        Check.due("mapped as committed", x.commit(), 0);
        x.write(1, 0, 3);
        Check.due("the snapshot's block is not overwritten", x.past(2, 0), 1);
        Check.yes("the snapshot is still there", x.revert(1, 2));
        Check.due("read(1, 0)", x.read(1, 0), 1);
    }

    private static void anotherFile() {
        ExtentStore x = new ExtentStore(20);
        x.write(0, 31, 4);
        x.write(5, 30, 6);
        x.snap(0, 0);
        Check.yes("revert(5, 0)", x.revert(5, 0));
        Check.due("read(5, 31)", x.read(5, 31), 4);
        Check.due("read(5, 30)", x.read(5, 30), 0);
        Check.due("uses(0)", x.uses(0), 103);
        Check.due("it does not commit", x.crash(), 2);
        Check.due("read(5, 30)", x.read(5, 30), 6);
    }

    private static void countsTowardsGroup() {
        ExtentStore x = new ExtentStore(1);
        x.write(0, 0, 1);
        x.snap(0, 0);
        x.punch(0, 0, 1);
        Check.yes("revert(0, 0)", x.revert(0, 0));
        Check.due("committed at once", x.crash(), 0);
        Check.due("read(0, 0)", x.read(0, 0), 1);
    }

    private static ExtentStore oneThere() {
        ExtentStore x = new ExtentStore(20);
        x.write(0, 0, 1);
        x.snap(1, 0);
        x.write(0, 0, 2);
        return x;
    }

    private static ExtentStore oneThereAndRefusing() {
        ExtentStore x = oneThere();
        int[][] wrong = {{-1, 1}, {6, 1}, {0, 0}, {0, 2}, {0, -1}, {0, 3}, {Integer.MAX_VALUE, 1},
            {Integer.MIN_VALUE, 1}, {0, Integer.MAX_VALUE}, {0, Integer.MIN_VALUE}};
        for (int[] w : wrong) {
            Check.no("revert(" + w[0] + ", " + w[1] + ")", x.revert(w[0], w[1]));
        }
        return x;
    }
}
