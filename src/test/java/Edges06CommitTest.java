// The edges that promise 6 names.
public final class Edges06CommitTest {
    public static void main(String[] args) {
        Check.sentence("Commits", Edges06CommitTest::commits);
        Check.sentence("answers how many logical blocks were mapped otherwise: none", Edges06CommitTest::none);
        Check.sentence("answers how many logical blocks were mapped otherwise: all", Edges06CommitTest::all);
        Check.sentence("mapped otherwise: in every file, at both ends", Edges06CommitTest::everyFile);
        Check.sentence("mapped otherwise: a hole for a block, a block for a hole, another block",
            Edges06CommitTest::eachWay);
        Check.sentence("mapped otherwise: not what is mapped again as it was", Edges06CommitTest::asBefore);
        Check.sentence("logical blocks of files: not of snapshots", Edges06CommitTest::notOfSnapshots);
        Check.sentence("than in the committed maps before: those of the latest commit",
            Edges06CommitTest::thanAtTheLatestCommit);
        Check.end();
    }

    private static void commits() {
        TestStore x = States.busy(20);
        x.changes().is(4);
        x.commit().is(5);
        x.changes().is(0);
        x.crash().is(0);
        x.read(0, 1).is(202);
        x.place(0, 3).is(-1);
        x.read(2, 31).is(103);
        x.read(3, 0).is(300);
        x.write(3, 0, 301).yes();
        x.place(3, 0).is(49);
        x.commit().is(1);
        x.uses(48).is(0);
    }

    private static void none() {
        TestStore x = new TestStore(20);
        x.commit().is(0);
        x.commit().is(0);
        x.write(0, 0, 1).yes();
        x.crash().is(1);
        x.commit().is(0);
        TestStore y = States.dense();
        y.commit().is(0);
    }

    private static void all() {
        TestStore x = States.allOnOneBlock();
        x.commit().is(192);
        x.commit().is(0);
        for (int f = 0; f < 6; f++) {
            x.punch(f, 0, 32).yes();
        }
        x.commit().is(192);
        x.free(0).is(96);
    }

    private static void everyFile() {
        for (int f = 0; f < 6; f++) {
            TestStore x = new TestStore(20);
            x.write(f, 0, 1).yes();
            x.commit().is(1);
            x.write(f, 31, 1).yes();
            x.commit().is(1);
            x.punch(f, 0, 32).yes();
            x.commit().is(2);
        }
    }

    private static void eachWay() {
        TestStore x = new TestStore(20);
        x.write(0, 0, 1).yes();
        x.write(0, 1, 2).yes();
        x.commit().is(2);
        x.punch(0, 0, 1).yes();
        x.commit().is(1);
        x.copy(0, 1, 0, 0, 1).yes();
        x.commit().is(1);
        x.write(0, 0, 2).yes();
        x.commit().is(1);
        x.write(0, 0, 2).yes();
        x.write(0, 0, 2).yes();
        x.write(0, 0, 2).yes();
        x.commit().is(1);
    }

    private static void asBefore() {
        TestStore x = new TestStore(20);
        x.write(0, 0, 1).yes();
        x.commit().is(1);
        x.copy(0, 0, 3, 3, 1).yes();
        x.punch(0, 0, 1).yes();
        x.copy(3, 3, 0, 0, 1).yes();
        x.punch(3, 3, 1).yes();
        x.write(4, 4, 1).yes();
        x.punch(4, 4, 1).yes();
        x.changes().is(6);
        x.commit().is(0);
        x.changes().is(0);
    }

    private static void notOfSnapshots() {
        TestStore x = new TestStore(20);
        x.write(0, 0, 1).yes();
        x.snap(0, 0).yes();
        x.punch(0, 0, 1).yes();
        x.commit().is(1);
        x.commit().is(0);
        x.drop(0).yes();
        x.commit().is(0);
    }

    private static void thanAtTheLatestCommit() {
        TestStore x = new TestStore(2);
        x.write(0, 0, 1).yes();
        x.write(0, 1, 1).yes();
        x.write(0, 2, 1).yes();
        x.commit().is(1);
        x.write(0, 3, 1).yes();
        x.snap(0, 0).yes();
        x.commit().is(0);
        x.punch(0, 0, 4).yes();
        x.drop(0).yes();
        x.commit().is(0);
    }
}
