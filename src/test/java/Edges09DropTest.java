// The edges that promise 9 names.
public final class Edges09DropTest {
    public static void main(String[] args) {
        Check.sentence("Commits", Edges09DropTest::commits);
        Check.sentence("and then snapshot s is not there any more", Edges09DropTest::notThere);
        Check.sentence("not there any more: its blocks are free, but for those that others have",
            Edges09DropTest::blocksAreFree);
        Check.sentence("not there any more: it can be made again", Edges09DropTest::madeAgain);
        Check.sentence("false if s is not 0 to 2: too small", Edges09DropTest::tooSmall);
        Check.sentence("false if s is not 0 to 2: too large", Edges09DropTest::tooLarge);
        Check.sentence("or not there.", Edges09DropTest::isNotThere);
        Check.end();
    }

    private static void commits() {
        TestStore x = States.busy(20);
        x.drop(1).yes();
        x.changes().is(0);
        x.commit().is(0);
        x.crash().is(0);
        x.read(0, 1).is(202);
        x.place(0, 3).is(-1);
        x.read(3, 0).is(300);
        x.uses(3).is(0);
        TestStore y = new TestStore(20);
        y.snap(0, 0).yes();
        y.write(4, 4, 4).yes();
        y.drop(0).yes();
        y.changes().is(0);
        y.crash().is(0);
        y.read(4, 4).is(4);
    }

    private static void notThere() {
        for (int s = 0; s < 3; s++) {
            TestStore x = States.dense();
            x.drop(s).yes();
            for (int other = 0; other < 3; other++) {
                for (int b = 0; b < 32; b++) {
                    x.past(other, b).is(other == s ? 0 : States.denseValue(other, b));
                }
                x.revert(other, other).is(other != s);
            }
            x.drop(s).no();
        }
    }

    private static void blocksAreFree() {
        for (int s = 0; s < 3; s++) {
            TestStore x = new TestStore(20);
            x.write(0, 0, 1).yes();
            x.write(0, 15, 2).yes();
            x.write(0, 31, 3).yes();
            x.snap(s, 0).yes();
            x.punch(0, 0, 1).yes();
            x.punch(0, 31, 1).yes();
            x.free(0).is(93);
            x.drop(s).yes();
            x.free(0).is(95);
            x.uses(0).is(0);
            x.uses(1).is(101);
            x.uses(2).is(0);
            x.read(0, 15).is(2);
        }
    }

    private static void madeAgain() {
        TestStore x = States.dense();
        for (int s = 0; s < 3; s++) {
            x.drop(s).yes();
            x.punch(5, 0, 16).yes();
            x.snap(s, 5).yes();
            x.snap(s, 5).no();
            x.past(s, 15).is(0);
            x.past(s, 16).is(States.denseValue(5, 16));
        }
    }

    private static void tooSmall() {
        for (int s : States.TOO_SMALL) {
            States.refused(x -> x.drop(s));
            States.refusedIn(States::dense, x -> x.drop(s));
        }
    }

    private static void tooLarge() {
        for (int s : States.TOO_LARGE_SNAPSHOTS) {
            States.refused(x -> x.drop(s));
            States.refusedIn(States::dense, x -> x.drop(s));
        }
    }

    private static TestStore droppedAndChanged(int s) {
        TestStore x = States.dense();
        x.drop(s).yes();
        x.punch(s, 0, 3).yes();
        return x;
    }

    private static void isNotThere() {
        States.refused(x -> x.drop(0));
        States.refused(x -> x.drop(2));
        for (int s = 0; s < 3; s++) {
            int snapshot = s;
            States.refusedIn(() -> new TestStore(20), x -> x.drop(snapshot));
            States.refusedIn(() -> droppedAndChanged(snapshot), x -> x.drop(snapshot));
        }
    }
}
