// The edges that promise 3 names.
public final class Edges03ReadTest {
    public static void main(String[] args) {
        Check.sentence("The value of logical block b of file f", Edges03ReadTest::everyBlock);
        Check.sentence("0 for a hole", Edges03ReadTest::hole);
        Check.sentence("or if there is no such block: f too small", Edges03ReadTest::fileTooSmall);
        Check.sentence("or if there is no such block: f too large", Edges03ReadTest::fileTooLarge);
        Check.sentence("or if there is no such block: b too small", Edges03ReadTest::blockTooSmall);
        Check.sentence("or if there is no such block: b too large", Edges03ReadTest::blockTooLarge);
        Check.end();
    }

    private static void everyBlock() {
        TestStore x = States.dense();
        for (int f = 0; f < 6; f++) {
            for (int b = 0; b < 32; b++) {
                x.read(f, b).is(States.denseValue(f, b));
            }
        }
    }

    private static void hole() {
        TestStore x = new TestStore(20);
        x.read(0, 0).is(0);
        x.read(5, 31).is(0);
        x.write(0, 0, 8).yes();
        x.commit().is(1);
        x.read(0, 1).is(0);
        x.punch(0, 0, 1).yes();
        x.read(0, 0).is(0);
        x.crash().is(1);
        x.read(0, 0).is(8);
        x.copy(0, 1, 0, 0, 1).yes();
        x.read(0, 0).is(0);
        x.write(3, 3, 8).yes();
        x.crash().is(2);
        x.read(3, 3).is(0);
    }

    private static void fileTooSmall() {
        TestStore x = States.dense();
        for (int f : States.TOO_SMALL) {
            x.read(f, 0).is(0);
            x.read(f, 31).is(0);
            x.read(f, -32 * f).is(0);
        }
    }

    private static void fileTooLarge() {
        TestStore x = States.dense();
        for (int f : States.TOO_LARGE_FILES) {
            x.read(f, 0).is(0);
            x.read(f, 31).is(0);
            x.read(f, -32 * f).is(0);
        }
    }

    private static void blockTooSmall() {
        TestStore x = States.dense();
        for (int b : States.TOO_SMALL) {
            for (int f = 0; f < 6; f++) {
                x.read(f, b).is(0);
            }
        }
    }

    private static void blockTooLarge() {
        TestStore x = States.dense();
        for (int b : States.TOO_LARGE_BLOCKS) {
            for (int f = 0; f < 6; f++) {
                x.read(f, b).is(0);
            }
        }
    }
}
