// The edges that promise 5 names.
public final class Edges05CopyTest {
    public static void main(String[] args) {
        Check.sentence("Logical blocks b to b + count - 1 of g become mapped as blocks a to a + count - 1 of f",
            Edges05CopyTest::mapped);
        Check.sentence("or holes", Edges05CopyTest::holes);
        Check.sentence("(as they were before, if f and g are the same)", Edges05CopyTest::sameFile);
        Check.sentence("true: also on a full disk", Edges05CopyTest::fullDisk);
        Check.sentence("false if f is no file", Edges05CopyTest::sourceIsNoFile);
        Check.sentence("false if g is no file", Edges05CopyTest::targetIsNoFile);
        Check.sentence("count is below 1", Edges05CopyTest::countTooSmall);
        Check.sentence("or one of these blocks is not 0 to 31: a is too small", Edges05CopyTest::sourceTooSmall);
        Check.sentence("or one of these blocks is not 0 to 31: b is too small", Edges05CopyTest::targetTooSmall);
        Check.sentence("or one of these blocks is not 0 to 31: a is too large", Edges05CopyTest::sourceTooLarge);
        Check.sentence("or one of these blocks is not 0 to 31: b is too large", Edges05CopyTest::targetTooLarge);
        Check.sentence("or one of these blocks is not 0 to 31: a + count - 1 is too large",
            Edges05CopyTest::sourceEndsTooFar);
        Check.sentence("or one of these blocks is not 0 to 31: b + count - 1 is too large",
            Edges05CopyTest::targetEndsTooFar);
        Check.sentence("or one of these blocks is not 0 to 31: the sum wraps around", Edges05CopyTest::wrapAround);
        Check.end();
    }

    // From the store in which no block is a hole.
    private static void copies(int f, int a, int g, int b, int count) {
        TestStore x = States.dense();
        x.copy(f, a, g, b, count).yes();
        x.changes().is(1);
        for (int file = 0; file < 6; file++) {
            for (int block = 0; block < 32; block++) {
                boolean copied = file == g && block >= b && block < b + count;
                int from = copied ? f % 3 * 32 + a + block - b : file % 3 * 32 + block;
                x.place(file, block).is(from);
            }
        }
    }

    private static void mapped() {
        copies(0, 0, 1, 0, 1);
        copies(0, 0, 1, 0, 32);
        copies(5, 31, 0, 31, 1);
        copies(0, 31, 5, 0, 1);
        copies(4, 0, 2, 31, 1);
        copies(1, 1, 2, 0, 31);
        copies(1, 0, 2, 1, 31);
        copies(2, 10, 3, 20, 12);
        copies(2, 20, 3, 10, 12);
        copies(0, 3, 3, 3, 5);
    }

    private static void holes() {
        TestStore x = States.busy(20);
        x.copy(4, 0, 0, 0, 1).yes();
        x.place(0, 0).is(-1);
        x.place(0, 1).is(4);
        x.copy(1, 30, 5, 30, 2).yes();
        x.place(5, 30).is(-1);
        x.place(5, 31).is(16);
        x.copy(4, 0, 0, 0, 32).yes();
        for (int b = 0; b < 32; b++) {
            x.place(0, b).is(-1);
        }
        x.past(1, 0).is(101);
        x.uses(4).is(0);
        x.uses(0).is(101);
    }

    private static void sameFile() {
        int[] files = {0, 3, 5};
        for (int f : files) {
            copies(f, 0, f, 1, 31);
            copies(f, 1, f, 0, 31);
            copies(f, 0, f, 0, 32);
            copies(f, 31, f, 31, 1);
            copies(f, 5, f, 5, 3);
            copies(f, 4, f, 6, 20);
            copies(f, 6, f, 4, 20);
            copies(f, 0, f, 16, 16);
            copies(f, 16, f, 0, 16);
            copies(f, 0, f, 31, 1);
        }
    }

    private static void fullDisk() {
        TestStore x = States.full();
        x.copy(0, 0, 5, 0, 32).yes();
        x.read(5, 0).is(1);
        x.read(5, 31).is(32);
        x.uses(0).is(102);
        x.free(0).is(0);
    }

    private static void sourceIsNoFile() {
        for (int i = 0; i < States.TOO_SMALL.length; i++) {
            int small = States.TOO_SMALL[i];
            int large = States.TOO_LARGE_FILES[i];
            States.refused(x -> x.copy(small, 0, 0, 0, 1));
            States.refused(x -> x.copy(small, 31, 5, 31, 1));
            States.refused(x -> x.copy(large, 0, 0, 0, 1));
            States.refused(x -> x.copy(large, 0, 5, 0, 32));
        }
    }

    private static void targetIsNoFile() {
        for (int i = 0; i < States.TOO_SMALL.length; i++) {
            int small = States.TOO_SMALL[i];
            int large = States.TOO_LARGE_FILES[i];
            States.refused(x -> x.copy(0, 0, small, 0, 1));
            States.refused(x -> x.copy(5, 31, small, 31, 1));
            States.refused(x -> x.copy(0, 0, large, 0, 1));
            States.refused(x -> x.copy(5, 0, large, 0, 32));
        }
    }

    private static void countTooSmall() {
        int[] counts = {0, -1, -2, -32, Integer.MIN_VALUE + 1, Integer.MIN_VALUE};
        for (int count : counts) {
            States.refused(x -> x.copy(0, 0, 1, 0, count));
            States.refused(x -> x.copy(0, 31, 1, 31, count));
            States.refused(x -> x.copy(0, 2, 0, 1, count));
        }
    }

    private static void sourceTooSmall() {
        for (int a : States.TOO_SMALL) {
            States.refused(x -> x.copy(1, a, 2, 0, 1));
            States.refused(x -> x.copy(3, a, 4, 0, 2));
            States.refused(x -> x.copy(3, a, 4, 0, 32));
        }
    }

    private static void targetTooSmall() {
        for (int b : States.TOO_SMALL) {
            States.refused(x -> x.copy(2, 31, 1, b, 1));
            States.refused(x -> x.copy(2, 30, 1, b, 2));
            States.refused(x -> x.copy(0, 0, 3, b, 32));
        }
    }

    private static void sourceTooLarge() {
        for (int a : States.TOO_LARGE_BLOCKS) {
            States.refused(x -> x.copy(2, a, 4, 0, 1));
            States.refused(x -> x.copy(0, a, 4, 31, 1));
        }
    }

    private static void targetTooLarge() {
        for (int b : States.TOO_LARGE_BLOCKS) {
            States.refused(x -> x.copy(0, 0, 2, b, 1));
            States.refused(x -> x.copy(3, 0, 0, b, 1));
        }
    }

    private static void sourceEndsTooFar() {
        States.refused(x -> x.copy(2, 31, 4, 0, 2));
        States.refused(x -> x.copy(2, 30, 4, 0, 3));
        States.refused(x -> x.copy(2, 1, 4, 0, 32));
        States.refused(x -> x.copy(2, 20, 4, 5, 13));
        States.refused(x -> x.copy(0, 0, 0, 0, 33));
    }

    private static void targetEndsTooFar() {
        States.refused(x -> x.copy(0, 0, 2, 31, 2));
        States.refused(x -> x.copy(0, 0, 2, 30, 3));
        States.refused(x -> x.copy(0, 0, 2, 1, 32));
        States.refused(x -> x.copy(0, 5, 2, 20, 13));
        States.refused(x -> x.copy(0, 0, 4, 0, 33));
    }

    private static void wrapAround() {
        int most = Integer.MAX_VALUE;
        int[] starts = {0, 1, 2, 31};
        for (int a : starts) {
            for (int b : starts) {
                States.refused(x -> x.copy(0, a, 2, b, most));
                States.refused(x -> x.copy(0, a, 2, b, most - 30));
            }
        }
        States.refused(x -> x.copy(0, most, 2, 0, 2));
        States.refused(x -> x.copy(0, 0, 2, most, 2));
        States.refused(x -> x.copy(0, most, 2, most, most));
        States.refused(x -> x.copy(0, Integer.MIN_VALUE, 2, 0, most));
        States.refused(x -> x.copy(0, 0, 2, Integer.MIN_VALUE, most));
        States.refused(x -> x.copy(0, Integer.MIN_VALUE, 2, Integer.MIN_VALUE, Integer.MIN_VALUE));
    }
}
