import java.util.function.Function;
import java.util.function.Supplier;

// Stores in which the tests of the document's edges begin, and the numbers that are wrong everywhere.
final class States {
    // Some of these become a right slot of a map if they are multiplied by 32 without a look at them.
    static final int[] TOO_SMALL = {-1, -2, -32, -(1 << 27), Integer.MIN_VALUE};
    static final int[] TOO_LARGE_FILES = {6, 7, 32, 1 << 27, Integer.MAX_VALUE};
    static final int[] TOO_LARGE_BLOCKS = {32, 33, 64, 1 << 27, Integer.MAX_VALUE};
    static final int[] TOO_LARGE_SNAPSHOTS = {3, 4, 6, 1 << 27, Integer.MAX_VALUE};

    private States() {
    }

    // Own, shared, committed and punched blocks, snapshot 1 alone, and four changes since the commit, which make
    // five logical blocks differ from the committed maps. GROUP has to be 5 or more.
    static TestStore busy(int group) {
        TestStore x = new TestStore(group);
        for (int b = 0; b < 4; b++) {
            x.write(0, b, 101 + b).yes();
        }
        x.write(1, 31, 131).yes();
        x.write(5, 31, 631).yes();
        x.snap(1, 0).yes();
        x.copy(0, 1, 2, 30, 2).yes();
        x.write(0, 1, 202).yes();
        x.punch(0, 3, 1).yes();
        x.write(3, 0, 300).yes();
        return x;
    }

    // Files 0, 1 and 2 have the physical blocks 0 to 95 in order, each with its number plus 1 as its value. The
    // last 16 are not committed, and the others are.
    static TestStore full() {
        TestStore x = new TestStore(20);
        for (int p = 0; p < 96; p++) {
            x.write(p / 32, p % 32, p + 1).yes();
        }
        return x;
    }

    // As full(), all committed, but for the physical blocks named, which are free.
    static TestStore fullBut(int... free) {
        TestStore x = full();
        for (int p : free) {
            x.punch(p / 32, p % 32, 1).yes();
        }
        x.commit();
        x.free(0).is(free.length);
        return x;
    }

    // No file and no snapshot has a hole: files 3, 4 and 5 and snapshots 0, 1 and 2 are as files 0, 1 and 2.
    static TestStore dense() {
        TestStore x = full();
        for (int f = 0; f < 3; f++) {
            x.copy(f, 0, f + 3, 0, 32).yes();
        }
        for (int s = 0; s < 3; s++) {
            x.snap(s, s).yes();
        }
        return x;
    }

    static int denseValue(int f, int b) {
        return f % 3 * 32 + b + 1;
    }

    // All 192 logical blocks of files have physical block 0, by 11 changes and no commit.
    static TestStore allOnOneBlock() {
        TestStore x = new TestStore(20);
        x.write(0, 0, 7).yes();
        for (int count = 1; count < 32; count *= 2) {
            x.copy(0, 0, 0, count, count).yes();
        }
        for (int f = 1; f < 6; f++) {
            x.copy(0, 0, f, 0, 32).yes();
        }
        return x;
    }

    static void refusedIn(Supplier<TestStore> state, Function<TestStore, TestStore.Answer> call) {
        call.apply(state.get()).no();
        unchangedBy(state, call);
    }

    // Once with room for more changes, and once with a commit due at the very next one.
    static void refused(Function<TestStore, TestStore.Answer> call) {
        refusedIn(() -> busy(20), call);
        refusedIn(() -> busy(5), call);
    }

    static void unchangedBy(Supplier<TestStore> state, Function<TestStore, TestStore.Answer> call) {
        Supplier<ExtentStore> changed = () -> {
            TestStore x = state.get();
            call.apply(x);
            return x.store();
        };
        String told = call.apply(state.get()).call();
        Check.same("before and after the last of: " + told, () -> state.get().store(), changed);
    }
}
