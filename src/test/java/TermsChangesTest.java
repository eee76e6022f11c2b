import java.util.ArrayList;
import java.util.List;
import java.util.function.Consumer;

// The sentences of the document's "Terms" on changes and GROUP.
public final class TermsChangesTest {
    public static void main(String[] args) {
        Check.sentence("CHANGES are the calls of write, punch, copy, revert and gather",
            TermsChangesTest::eachKindCounts);
        Check.sentence("that answer true.", TermsChangesTest::refusedOnesDoNotCount);
        Check.sentence("CHANGES are no other calls", TermsChangesTest::otherCallsDoNotCount);
        Check.sentence("As soon as GROUP changes were made, there is a commit.", TermsChangesTest::eachKindCommits);
        Check.sentence("GROUP changes: one less is not enough", TermsChangesTest::oneLess);
        Check.sentence("since the latest commit", TermsChangesTest::sinceTheLatestCommit);
        Check.sentence("(or the beginning)", TermsChangesTest::sinceTheBeginning);
        Check.end();
    }

    private record Kind(String name, Consumer<TestStore> call, int differing) {
    }

    // On the store of twoChanges(): what each call makes differ from the committed maps stands beside it.
    private static List<Kind> kinds() {
        List<Kind> kinds = new ArrayList<>();
        kinds.add(new Kind("write of a hole", x -> x.write(2, 5, 9).yes(), 1));
        kinds.add(new Kind("write of a committed block", x -> x.write(0, 0, 9).yes(), 1));
        kinds.add(new Kind("write in place", x -> x.write(1, 0, 9).yes(), 0));
        kinds.add(new Kind("write of the same value", x -> x.write(1, 0, 1).yes(), 0));
        kinds.add(new Kind("punch", x -> x.punch(0, 0, 32).yes(), 2));
        kinds.add(new Kind("punch of holes", x -> x.punch(4, 0, 32).yes(), 0));
        kinds.add(new Kind("copy", x -> x.copy(0, 0, 3, 3, 3).yes(), 2));
        kinds.add(new Kind("copy onto itself", x -> x.copy(0, 0, 0, 0, 32).yes(), 0));
        kinds.add(new Kind("copy of holes", x -> x.copy(4, 0, 5, 0, 32).yes(), 0));
        kinds.add(new Kind("revert of another file", x -> x.revert(4, 0).yes(), 2));
        kinds.add(new Kind("revert that changes no map", x -> x.revert(0, 0).yes(), 0));
        kinds.add(new Kind("gather", x -> x.gather(0).yes(), 2));
        return kinds;
    }

    // File 0 has two blocks, committed and in snapshot 0; file 1 has two since, by two changes.
    private static TestStore twoChanges(int group) {
        TestStore x = new TestStore(group);
        x.write(0, 0, 1).yes();
        x.write(0, 2, 2).yes();
        x.snap(0, 0).yes();
        x.changes().is(0);
        x.write(1, 0, 1).yes();
        x.write(1, 1, 2).yes();
        return x;
    }

    private static void eachKindCounts() {
        for (Kind kind : kinds()) {
            TestStore x = twoChanges(20);
            x.changes().is(2);
            kind.call().accept(x);
            x.changes().is(3);
            kind.call().accept(x);
            x.changes().is(4);
        }
    }

    private static void refusedOnesDoNotCount() {
        TestStore x = twoChanges(3);
        x.write(6, 0, 1).no();
        x.write(0, 32, 1).no();
        x.punch(0, 0, 0).no();
        x.copy(0, 1, 0, 0, 32).no();
        x.revert(0, 1).no();
        x.gather(1).no();
        x.gather(2).no();
        x.snap(0, 0).no();
        x.drop(1).no();
        x.changes().is(2);
        x.crash().is(2);
    }

    private static void otherCallsDoNotCount() {
        TestStore x = twoChanges(3);
        x.read(0, 0).is(1);
        x.past(0, 0).is(1);
        x.place(0, 0).is(0);
        x.uses(0).is(102);
        x.free(0).is(92);
        x.extents(0).is(2);
        x.changes().is(2);
        x.crash().is(2);
        x.changes().is(0);
        x.commit().is(0);
        x.snap(1, 1).yes();
        x.drop(1).yes();
        x.changes().is(0);
    }

    private static void eachKindCommits() {
        for (Kind kind : kinds()) {
            TestStore x = twoChanges(3);
            kind.call().accept(x);
            x.changes().is(0);
            x.commit().is(0);
            x.crash().is(0);
            x.read(1, 0).is(kind.name().equals("write in place") ? 9 : 1);
            x.read(1, 1).is(2);
        }
        TestStore x = new TestStore(2);
        x.write(0, 0, 1).yes();
        x.write(0, 0, 2).yes();
        x.write(0, 0, 3).yes();
        x.place(0, 0).is(1);
        x.crash().is(1);
        x.read(0, 0).is(2);
    }

    private static void oneLess() {
        for (Kind kind : kinds()) {
            TestStore x = twoChanges(4);
            kind.call().accept(x);
            x.changes().is(3);
            x.crash().is(2 + kind.differing());
            x.place(1, 0).is(-1);
            x.read(0, 0).is(1);
            x.read(0, 2).is(2);
        }
    }

    private static void commitsAtTheFourth(TestStore x) {
        for (int i = 1; i <= 3; i++) {
            x.write(2, i, i).yes();
            x.changes().is(i);
        }
        x.uses(x.store().place(2, 3)).is(101);
        x.write(2, 4, 4).yes();
        x.changes().is(0);
        x.crash().is(0);
        x.read(2, 1).is(1);
    }

    private static void sinceTheLatestCommit() {
        TestStore byHand = twoChanges(4);
        byHand.commit().is(2);
        commitsAtTheFourth(byHand);

        TestStore bySnap = twoChanges(4);
        bySnap.snap(1, 5).yes();
        commitsAtTheFourth(bySnap);

        TestStore byDrop = twoChanges(4);
        byDrop.drop(0).yes();
        commitsAtTheFourth(byDrop);

        TestStore byGroup = twoChanges(4);
        byGroup.punch(5, 0, 1).yes();
        byGroup.punch(5, 0, 1).yes();
        byGroup.changes().is(0);
        commitsAtTheFourth(byGroup);
        byGroup.punch(2, 0, 32).yes();
        byGroup.commit().is(4);
        commitsAtTheFourth(byGroup);
    }

    private static void sinceTheBeginning() {
        commitsAtTheFourth(new TestStore(4));
        TestStore one = new TestStore(1);
        one.write(0, 0, 1).yes();
        one.changes().is(0);
        one.crash().is(0);
        one.read(0, 0).is(1);
        TestStore twenty = new TestStore(20);
        for (int i = 1; i <= 19; i++) {
            twenty.write(0, i, i).yes();
            twenty.changes().is(i);
        }
        twenty.crash().is(19);
    }
}
