// The edges that promise 17 names; TermsChangesTest has those of what a change is.
public final class Edges17ChangesTest {
    public static void main(String[] args) {
        Check.sentence("How many changes were made since the beginning", Edges17ChangesTest::sinceTheBeginning);
        Check.sentence("since the latest commit: one by hand", Edges17ChangesTest::sinceCommit);
        Check.sentence("since the latest commit: one by GROUP", Edges17ChangesTest::sinceGroup);
        Check.sentence("since the latest commit: one by snap", Edges17ChangesTest::sinceSnap);
        Check.sentence("since the latest commit: one by drop", Edges17ChangesTest::sinceDrop);
        Check.sentence("or crash", Edges17ChangesTest::sinceCrash);
        Check.sentence("How many changes: refused calls leave it", Edges17ChangesTest::refused);
        Check.end();
    }

    private static void countsOn(TestStore x, int from, int to) {
        for (int i = from; i <= to; i++) {
            x.changes().is(i);
            x.punch(0, 0, 1).yes();
            x.changes().is(i + 1);
            x.changes().is(i + 1);
        }
    }

    private static void sinceTheBeginning() {
        TestStore x = new TestStore(20);
        countsOn(x, 0, 18);
        TestStore most = new TestStore(Integer.MAX_VALUE);
        countsOn(most, 0, 18);
        most.punch(0, 0, 1).yes();
        most.changes().is(0);
    }

    private static void sinceCommit() {
        TestStore x = new TestStore(20);
        x.commit().is(0);
        countsOn(x, 0, 4);
        x.commit().is(0);
        countsOn(x, 0, 18);
        x.commit().is(0);
        x.changes().is(0);
    }

    private static void sinceGroup() {
        for (int group = 1; group <= 20; group++) {
            TestStore x = new TestStore(group);
            for (int i = 1; i <= 3 * group + 1; i++) {
                x.write(0, 0, i).yes();
                x.changes().is(i % group);
            }
        }
    }

    private static void sinceSnap() {
        TestStore x = new TestStore(20);
        countsOn(x, 0, 4);
        x.snap(0, 0).yes();
        x.changes().is(0);
        countsOn(x, 0, 18);
        x.snap(1, 0).yes();
        x.changes().is(0);
    }

    private static void sinceDrop() {
        TestStore x = new TestStore(20);
        x.snap(0, 0).yes();
        x.snap(1, 0).yes();
        countsOn(x, 0, 4);
        x.drop(0).yes();
        x.changes().is(0);
        countsOn(x, 0, 18);
        x.drop(1).yes();
        x.changes().is(0);
    }

    private static void sinceCrash() {
        TestStore x = new TestStore(20);
        x.crash().is(0);
        countsOn(x, 0, 4);
        x.crash().is(0);
        x.changes().is(0);
        countsOn(x, 0, 18);
        x.crash().is(0);
        countsOn(x, 0, 18);
    }

    private static void refused() {
        TestStore x = States.busy(5);
        x.changes().is(4);
        x.write(0, 32, 1).no();
        x.punch(0, 0, 0).no();
        x.copy(0, 0, 1, 0, 33).no();
        x.snap(1, 0).no();
        x.drop(0).no();
        x.revert(0, 0).no();
        x.gather(4).no();
        x.gather(3).no();
        x.changes().is(4);
        TestStore full = States.full();
        full.write(4, 0, 1).no();
        full.changes().is(16);
    }
}
