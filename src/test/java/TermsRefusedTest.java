import java.util.ArrayList;
import java.util.List;
import java.util.function.Function;
import java.util.function.Supplier;

// "Calls that are refused change nothing.": every kind of call and every reason, in stores of several kinds.
public final class TermsRefusedTest {
    public static void main(String[] args) {
        Check.sentence("Calls that are refused change nothing: in a new store", () -> inState(TermsRefusedTest::fresh));
        Check.sentence("Calls that are refused change nothing: with changes made",
            () -> inState(() -> States.busy(20)));
        Check.sentence("Calls that are refused change nothing: before the change that commits",
            () -> inState(() -> States.busy(5)));
        Check.sentence("Calls that are refused change nothing: on a full disk", () -> inState(TermsRefusedTest::full));
        Check.sentence("Calls that are refused change nothing: where no block is a hole",
            () -> inState(TermsRefusedTest::dense));
        Check.sentence("Calls that only ask change nothing", TermsRefusedTest::questions);
        Check.end();
    }

    // Snapshot 1 is there in each of these stores, and 0 and 2 are not.
    private static TestStore fresh() {
        TestStore x = new TestStore(1);
        x.snap(1, 0).yes();
        return x;
    }

    private static TestStore full() {
        TestStore x = States.full();
        x.copy(2, 31, 5, 0, 1).yes();
        x.snap(1, 2).yes();
        x.punch(5, 0, 1).yes();
        return x;
    }

    private static TestStore dense() {
        TestStore x = States.dense();
        x.drop(0).yes();
        x.drop(2).yes();
        x.copy(0, 0, 4, 8, 8).yes();
        return x;
    }

    private static List<Function<TestStore, TestStore.Answer>> wrongFiles(int f) {
        return List.of(x -> x.write(f, 0, 9), x -> x.write(f, 32, 9), x -> x.punch(f, 0, 1), x -> x.copy(f, 0, 0, 0, 1),
            x -> x.copy(0, 0, f, 0, 1), x -> x.copy(f, 0, f, 0, 32), x -> x.snap(0, f), x -> x.revert(f, 1),
            x -> x.gather(f));
    }

    private static List<Function<TestStore, TestStore.Answer>> wrongBlocks(int b) {
        return List.of(x -> x.write(0, b, 9), x -> x.write(5, b, 9), x -> x.write(2, b, 9), x -> x.punch(0, b, 1),
            x -> x.punch(2, b, 40), x -> x.punch(5, b, Integer.MAX_VALUE), x -> x.copy(0, b, 1, 0, 1),
            x -> x.copy(2, 0, 1, b, 1), x -> x.copy(2, b, 2, b, 2));
    }

    private static List<Function<TestStore, TestStore.Answer>> wrongSnapshots(int s) {
        return List.of(x -> x.snap(s, 0), x -> x.snap(s, 5), x -> x.drop(s), x -> x.revert(0, s), x -> x.revert(5, s));
    }

    private static List<Function<TestStore, TestStore.Answer>> otherReasons() {
        return List.of(x -> x.punch(0, 0, 0), x -> x.punch(0, 0, -1), x -> x.punch(5, 31, Integer.MIN_VALUE),
            x -> x.copy(0, 0, 1, 0, 0), x -> x.copy(0, 0, 1, 0, -1), x -> x.copy(0, 0, 1, 0, Integer.MIN_VALUE),
            x -> x.copy(0, 1, 1, 0, 32), x -> x.copy(0, 0, 1, 1, 32), x -> x.copy(0, 1, 1, 1, Integer.MAX_VALUE),
            x -> x.snap(1, 0), x -> x.snap(1, 3), x -> x.drop(0), x -> x.drop(2), x -> x.revert(0, 0),
            x -> x.revert(0, 2), x -> x.gather(3));
    }

    private static void inState(Supplier<TestStore> state) {
        List<Function<TestStore, TestStore.Answer>> calls = new ArrayList<>(otherReasons());
        for (int i = 0; i < States.TOO_SMALL.length; i++) {
            calls.addAll(wrongFiles(States.TOO_SMALL[i]));
            calls.addAll(wrongFiles(States.TOO_LARGE_FILES[i]));
            calls.addAll(wrongBlocks(States.TOO_SMALL[i]));
            calls.addAll(wrongBlocks(States.TOO_LARGE_BLOCKS[i]));
            calls.addAll(wrongSnapshots(States.TOO_SMALL[i]));
            calls.addAll(wrongSnapshots(States.TOO_LARGE_SNAPSHOTS[i]));
        }
        for (Function<TestStore, TestStore.Answer> call : calls) {
            States.refusedIn(state, call);
        }
    }

    private static void questions() {
        int[] numbers = {Integer.MIN_VALUE, -1, 0, 1, 2, 3, 5, 6, 31, 32, 95, 96, Integer.MAX_VALUE};
        for (int n : numbers) {
            States.unchangedBy(() -> States.busy(5), x -> x.read(n, 1));
            States.unchangedBy(() -> States.busy(5), x -> x.read(2, n));
            States.unchangedBy(() -> States.busy(5), x -> x.past(n, 1));
            States.unchangedBy(() -> States.busy(5), x -> x.past(1, n));
            States.unchangedBy(() -> States.busy(5), x -> x.place(n, 1));
            States.unchangedBy(() -> States.busy(5), x -> x.place(2, n));
            States.unchangedBy(() -> States.busy(5), x -> x.uses(n));
            States.unchangedBy(() -> States.busy(5), x -> x.free(n));
            States.unchangedBy(() -> States.busy(5), x -> x.extents(n));
        }
        States.unchangedBy(() -> States.busy(5), TestStore::changes);
    }
}
