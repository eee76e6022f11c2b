// The edges that promise 7 names.
public final class Edges07CrashTest {
    public static void main(String[] args) {
        Check.sentence("All files get the committed maps", Edges07CrashTest::allFiles);
        Check.sentence("the committed maps: before the first commit", Edges07CrashTest::beforeTheFirstCommit);
        Check.sentence("the committed maps: those of a commit of any kind", Edges07CrashTest::everyKindOfCommit);
        Check.sentence("the committed maps: with the values that they had", Edges07CrashTest::values);
        Check.sentence("answers how many logical blocks were mapped otherwise: none", Edges07CrashTest::none);
        Check.sentence("answers how many logical blocks were mapped otherwise: all", Edges07CrashTest::all);
        Check.sentence("Snapshots stay.", Edges07CrashTest::snapshotsStay);
        Check.sentence("No changes count as made since the latest commit then.", Edges07CrashTest::noChangesCount);
        Check.end();
    }

    private static void allFiles() {
        TestStore x = new TestStore(20);
        for (int f = 0; f < 6; f++) {
            x.write(f, 0, f + 1).yes();
            x.write(f, 31, f + 11).yes();
        }
        x.commit().is(12);
        for (int f = 0; f < 6; f++) {
            x.punch(f, 0, 1).yes();
            x.write(f, 31, 99).yes();
            x.write(f, 15, 99).yes();
        }
        x.crash().is(18);
        for (int f = 0; f < 6; f++) {
            x.place(f, 0).is(16 * f);
            x.place(f, 31).is(16 * f + 1);
            x.place(f, 15).is(-1);
            x.read(f, 0).is(f + 1);
            x.read(f, 31).is(f + 11);
        }
        x.free(0).is(84);
    }

    private static void beforeTheFirstCommit() {
        TestStore x = States.allOnOneBlock();
        x.crash().is(192);
        x.place(0, 0).is(-1);
        x.place(5, 31).is(-1);
        x.free(0).is(96);
        x.commit().is(0);
    }

    private static void everyKindOfCommit() {
        TestStore byHand = new TestStore(20);
        byHand.write(0, 0, 1).yes();
        byHand.commit().is(1);
        byHand.punch(0, 0, 1).yes();
        byHand.crash().is(1);
        byHand.read(0, 0).is(1);

        TestStore byGroup = new TestStore(1);
        byGroup.write(0, 0, 1).yes();
        byGroup.crash().is(0);
        byGroup.read(0, 0).is(1);

        TestStore bySnap = new TestStore(20);
        bySnap.write(0, 0, 1).yes();
        bySnap.snap(0, 3).yes();
        bySnap.crash().is(0);
        bySnap.read(0, 0).is(1);
        bySnap.write(0, 0, 2).yes();
        bySnap.drop(0).yes();
        bySnap.crash().is(0);
        bySnap.read(0, 0).is(2);
    }

    private static void values() {
        TestStore x = States.busy(20);
        x.crash().is(5);
        int[] due = {101, 102, 103, 104};
        for (int b = 0; b < 4; b++) {
            x.place(0, b).is(b);
            x.read(0, b).is(due[b]);
        }
        x.read(1, 31).is(131);
        x.read(5, 31).is(631);
        x.place(2, 30).is(-1);
        x.place(3, 0).is(-1);
        TestStore y = States.fullBut(50, 51);
        y.write(0, 0, -1).yes();
        y.write(2, 31, -1).yes();
        y.write(0, 1, -1).no();
        y.crash().is(2);
        y.read(0, 0).is(1);
        y.read(2, 31).is(96);
        y.free(0).is(2);
    }

    private static void none() {
        TestStore x = new TestStore(20);
        x.crash().is(0);
        x.crash().is(0);
        x.write(0, 0, 1).yes();
        x.crash().is(1);
        x.crash().is(0);
        x.write(0, 0, 1).yes();
        x.punch(0, 0, 1).yes();
        x.crash().is(0);
        TestStore y = States.dense();
        y.crash().is(0);
    }

    private static void all() {
        TestStore x = States.allOnOneBlock();
        x.commit().is(192);
        for (int f = 0; f < 6; f++) {
            x.punch(f, 0, 32).yes();
        }
        x.crash().is(192);
        x.uses(0).is(292);
        TestStore y = new TestStore(20);
        for (int f = 0; f < 6; f++) {
            y.write(f, 0, 1).yes();
            y.crash().is(1);
            y.write(f, 31, 1).yes();
            y.crash().is(1);
        }
    }

    private static void snapshotsStay() {
        TestStore x = new TestStore(20);
        x.write(0, 0, 1).yes();
        x.write(0, 31, 2).yes();
        x.snap(0, 0).yes();
        x.snap(2, 5).yes();
        x.punch(0, 0, 32).yes();
        x.commit().is(2);
        x.crash().is(0);
        x.past(0, 0).is(1);
        x.past(0, 31).is(2);
        x.uses(0).is(101);
        x.snap(0, 0).no();
        x.snap(2, 0).no();
        x.drop(1).no();
        x.revert(3, 0).yes();
        x.place(3, 31).is(1);
        x.crash().is(2);
        x.revert(3, 2).yes();
        x.crash().is(0);
        x.drop(0).yes();
        x.crash().is(0);
        x.drop(0).no();
    }

    private static void noChangesCount() {
        TestStore x = new TestStore(3);
        x.write(0, 0, 1).yes();
        x.write(0, 1, 1).yes();
        x.changes().is(2);
        x.crash().is(2);
        x.changes().is(0);
        x.write(0, 0, 1).yes();
        x.write(0, 1, 1).yes();
        x.changes().is(2);
        x.crash().is(2);
        x.punch(1, 0, 1).yes();
        x.crash().is(0);
        x.changes().is(0);
        x.write(0, 0, 1).yes();
        x.write(0, 1, 1).yes();
        x.changes().is(2);
        x.write(0, 2, 1).yes();
        x.changes().is(0);
        x.crash().is(0);
    }
}
