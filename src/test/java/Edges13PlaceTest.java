// The edges that promise 13 names.
public final class Edges13PlaceTest {
    public static void main(String[] args) {
        Check.sentence("The physical block of logical block b of file f", Edges13PlaceTest::everyBlock);
        Check.sentence("-1 for a hole", Edges13PlaceTest::hole);
        Check.sentence("or if there is no such block: f too small or too large", Edges13PlaceTest::wrongFile);
        Check.sentence("or if there is no such block: b too small or too large", Edges13PlaceTest::wrongBlock);
        Check.end();
    }

    private static void everyBlock() {
        TestStore x = States.dense();
        for (int f = 0; f < 6; f++) {
            for (int b = 0; b < 32; b++) {
                x.place(f, b).is(f % 3 * 32 + b);
            }
        }
    }

    private static void hole() {
        TestStore x = States.dense();
        for (int f = 0; f < 6; f++) {
            x.punch(f, 0, 1).yes();
            x.punch(f, 31, 1).yes();
            x.place(f, 0).is(-1);
            x.place(f, 31).is(-1);
            x.place(f, 1).is(f % 3 * 32 + 1);
            x.place(f, 30).is(f % 3 * 32 + 30);
        }
        TestStore y = new TestStore(20);
        y.place(0, 0).is(-1);
        y.place(5, 31).is(-1);
    }

    private static void wrongFile() {
        TestStore x = States.dense();
        for (int i = 0; i < States.TOO_SMALL.length; i++) {
            int small = States.TOO_SMALL[i];
            int large = States.TOO_LARGE_FILES[i];
            x.place(small, 0).is(-1);
            x.place(small, 31).is(-1);
            x.place(small, -32 * small).is(-1);
            x.place(large, 0).is(-1);
            x.place(large, 31).is(-1);
            x.place(large, -32 * large).is(-1);
        }
    }

    private static void wrongBlock() {
        TestStore x = States.dense();
        for (int i = 0; i < States.TOO_SMALL.length; i++) {
            for (int f = 0; f < 6; f++) {
                x.place(f, States.TOO_SMALL[i]).is(-1);
                x.place(f, States.TOO_LARGE_BLOCKS[i]).is(-1);
            }
        }
    }
}
