public final class Promise04PunchTest {
    public static void main(String[] args) {
        makesHoles();
        endsAtTheLastBlock();
        sharedBlocksStay();
        Check.same("wrong punches", Promise04PunchTest::whole, Promise04PunchTest::wholeAndRefusing);
        Check.end();
    }

    private static ExtentStore whole() {
        ExtentStore x = new ExtentStore(20);
        for (int i = 0; i < 32; i++) {
            x.write(1, i, i + 1);
        }
        x.commit();
        return x;
    }

    private static void holesAre(ExtentStore x, int from, int to) {
        for (int b = 0; b < 32; b++) {
            boolean hole = b >= from && b <= to;
            Check.due("place(1, " + b + ")", x.place(1, b), hole ? -1 : 16 + b);
            Check.due("read(1, " + b + ")", x.read(1, b), hole ? 0 : b + 1);
        }
    }

    private static void makesHoles() {
        ExtentStore x = whole();
        Check.yes("punch(1, 4, 3)", x.punch(1, 4, 3));
        holesAre(x, 4, 6);
        Check.due("changes()", x.changes(), 1);
        Check.due("the committed maps keep them in use", x.free(0), 64);
        Check.yes("punch of holes", x.punch(1, 4, 3));
        Check.due("counts as a change", x.changes(), 2);
        Check.due("commit()", x.commit(), 3);
        Check.due("free(0)", x.free(0), 67);
    }

    private static void endsAtTheLastBlock() {
        int[][] cases = {{30, 2}, {30, 3}, {31, 1}, {31, 32}, {0, 32}, {0, 33}, {5, Integer.MAX_VALUE}, {31, Integer.MAX_VALUE}};
        for (int[] c : cases) {
            ExtentStore x = whole();
            x.write(2, 0, 77);
            Check.yes("punch(1, " + c[0] + ", " + c[1] + ")", x.punch(1, c[0], c[1]));
            holesAre(x, c[0], 31);
            Check.due("the next file stays", x.read(2, 0), 77);
        }
        ExtentStore y = whole();
        Check.yes("punch(1, 0, 31)", y.punch(1, 0, 31));
        holesAre(y, 0, 30);
    }

    private static void sharedBlocksStay() {
        ExtentStore x = new ExtentStore(20);
        x.write(0, 0, 5);
        x.copy(0, 0, 1, 0, 1);
        x.punch(0, 0, 1);
        Check.due("the other file's value", x.read(1, 0), 5);
        Check.due("uses(0)", x.uses(0), 101);
        x.punch(1, 0, 1);
        Check.due("nobody has it", x.uses(0), 0);
    }

    private static ExtentStore wholeAndRefusing() {
        ExtentStore x = whole();
        int[][] wrong = {{-1, 0, 1}, {6, 0, 1}, {1, -1, 5}, {1, 32, 1}, {1, 0, 0}, {1, 0, -1}, {1, 5, Integer.MIN_VALUE},
            {Integer.MIN_VALUE, 0, 1}, {Integer.MAX_VALUE, 0, 1}, {1, Integer.MIN_VALUE, 1},
            {1, Integer.MAX_VALUE, Integer.MAX_VALUE}, {1, -1, Integer.MAX_VALUE}, {0, 32, 1}, {2, -1, 1}};
        for (int[] w : wrong) {
            Check.no("punch(" + w[0] + ", " + w[1] + ", " + w[2] + ")", x.punch(w[0], w[1], w[2]));
        }
        return x;
    }
}
