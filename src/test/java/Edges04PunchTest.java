// The edges that promise 4 names.
public final class Edges04PunchTest {
    public static void main(String[] args) {
        Check.sentence("The logical blocks from b on, count of them", Edges04PunchTest::countOfThem);
        Check.sentence("but at most up to 31", Edges04PunchTest::upToTheLast);
        Check.sentence("become holes: true: those that are holes already", Edges04PunchTest::alreadyHoles);
        Check.sentence("become holes: true: on a full disk", Edges04PunchTest::fullDisk);
        Check.sentence("false if f is no file: too small", Edges04PunchTest::fileTooSmall);
        Check.sentence("false if f is no file: too large", Edges04PunchTest::fileTooLarge);
        Check.sentence("b is not 0 to 31: too small", Edges04PunchTest::blockTooSmall);
        Check.sentence("b is not 0 to 31: too large", Edges04PunchTest::blockTooLarge);
        Check.sentence("or count is below 1.", Edges04PunchTest::countTooSmall);
        Check.end();
    }

    // From the store in which no block is a hole: those from first to last of this file are, and no others.
    private static void makesHoles(int f, int b, int count, int last) {
        TestStore x = States.dense();
        x.punch(f, b, count).yes();
        x.changes().is(1);
        for (int file = 0; file < 6; file++) {
            for (int block = 0; block < 32; block++) {
                boolean hole = file == f && block >= b && block <= last;
                x.place(file, block).is(hole ? -1 : file % 3 * 32 + block);
            }
        }
        x.commit().is(last - b + 1);
    }

    private static void countOfThem() {
        makesHoles(0, 0, 1, 0);
        makesHoles(0, 0, 2, 1);
        makesHoles(3, 4, 3, 6);
        makesHoles(5, 30, 1, 30);
        makesHoles(2, 0, 31, 30);
        makesHoles(4, 1, 30, 30);
    }

    private static void upToTheLast() {
        int[] counts = {1, 2, 3, 32, 33, 64, 192, Integer.MAX_VALUE - 31, Integer.MAX_VALUE};
        for (int count : counts) {
            makesHoles(0, 31, count, 31);
            makesHoles(5, 31, count, 31);
        }
        makesHoles(1, 0, 32, 31);
        makesHoles(1, 0, 33, 31);
        makesHoles(1, 0, Integer.MAX_VALUE, 31);
        makesHoles(1, 1, 31, 31);
        makesHoles(1, 1, 32, 31);
        makesHoles(4, 5, Integer.MAX_VALUE, 31);
        makesHoles(4, 30, 2, 31);
        makesHoles(4, 30, 3, 31);
    }

    private static void alreadyHoles() {
        TestStore x = new TestStore(20);
        x.punch(0, 0, 1).yes();
        x.punch(5, 31, 32).yes();
        x.changes().is(2);
        x.commit().is(0);
        x.write(1, 5, 1).yes();
        x.punch(1, 0, 32).yes();
        x.place(1, 5).is(-1);
        x.punch(1, 0, 32).yes();
        x.changes().is(3);
        x.free(0).is(96);
    }

    private static void fullDisk() {
        TestStore x = States.full();
        x.punch(2, 31, 1).yes();
        x.free(0).is(1);
        x.punch(0, 0, 1).yes();
        x.free(0).is(1);
        x.commit().is(16);
        x.free(0).is(2);
    }

    private static void wrongFile(int f) {
        States.refused(x -> x.punch(f, 0, 1));
        States.refused(x -> x.punch(f, 31, 32));
        States.refused(x -> x.punch(f, -32 * f, 32));
    }

    private static void fileTooSmall() {
        for (int f : States.TOO_SMALL) {
            wrongFile(f);
        }
    }

    private static void fileTooLarge() {
        for (int f : States.TOO_LARGE_FILES) {
            wrongFile(f);
        }
    }

    private static void wrongBlock(int b) {
        for (int f = 0; f < 6; f++) {
            int file = f;
            States.refused(x -> x.punch(file, b, 1));
            States.refused(x -> x.punch(file, b, 64));
            States.refused(x -> x.punch(file, b, Integer.MAX_VALUE));
        }
    }

    private static void blockTooSmall() {
        for (int b : States.TOO_SMALL) {
            wrongBlock(b);
        }
    }

    private static void blockTooLarge() {
        for (int b : States.TOO_LARGE_BLOCKS) {
            wrongBlock(b);
        }
    }

    private static void countTooSmall() {
        int[] counts = {0, -1, -2, -31, -32, Integer.MIN_VALUE + 31, Integer.MIN_VALUE};
        for (int count : counts) {
            States.refused(x -> x.punch(0, 0, count));
            States.refused(x -> x.punch(0, 2, count));
            States.refused(x -> x.punch(2, 31, count));
        }
    }
}
