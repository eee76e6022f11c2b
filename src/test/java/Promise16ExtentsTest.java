public final class Promise16ExtentsTest {
    public static void main(String[] args) {
        runsOfBothKinds();
        physicalOrder();
        edges();
        wrongInputs();
        Check.end();
    }

    private static void runsOfBothKinds() {
        ExtentStore x = new ExtentStore(20);
        Check.due("all holes", x.extents(0), 0);
        x.write(0, 0, 1);
        Check.due("one block", x.extents(0), 1);
        x.write(0, 1, 1);
        Check.due("two that follow", x.extents(0), 1);
        x.write(0, 3, 1);
        Check.due("a logical gap without a physical one", x.extents(0), 2);
        x.write(0, 2, 1);
        Check.due("a physical gap without a logical one", x.extents(0), 3);
        x.punch(0, 1, 1);
        Check.due("a block apart and two", x.extents(0), 3);
        x.punch(0, 2, 1);
        Check.due("two blocks apart", x.extents(0), 2);
        Check.due("another file", x.extents(1), 0);
    }

    private static void physicalOrder() {
        ExtentStore x = new ExtentStore(20);
        for (int i = 0; i < 4; i++) {
            x.write(1, i, i);
        }
        for (int i = 0; i < 4; i++) {
            x.copy(1, i, 2, 3 - i, 1);
        }
        Check.due("physical blocks that go down", x.extents(2), 4);
        x.copy(1, 0, 3, 0, 2);
        x.copy(1, 0, 3, 2, 2);
        Check.due("the same run twice", x.extents(3), 2);
        x.copy(1, 0, 4, 8, 4);
        Check.due("a run of another file", x.extents(4), 1);
        x.copy(1, 0, 4, 12, 1);
        Check.due("and back", x.extents(4), 2);
    }

    private static void edges() {
        ExtentStore x = new ExtentStore(20);
        for (int i = 0; i < 32; i++) {
            x.write(0, i, i);
        }
        Check.due("a whole file in one run", x.extents(0), 1);
        x.copy(0, 0, 2, 0, 1);
        x.copy(0, 31, 1, 31, 1);
        x.write(2, 1, 1);
        Check.due("place(2, 1): the goal 1 is taken", x.place(2, 1), 32);
        Check.due("the last block of file 1 and the first of file 2 are no run", x.extents(2), 2);
        Check.due("a hole is not before block 0", x.extents(1), 1);
        x.copy(0, 0, 3, 1, 1);
        Check.due("physical block 0 after a hole", x.extents(3), 1);
        x.copy(0, 0, 3, 31, 1);
        Check.due("and once more", x.extents(3), 2);
    }

    private static void wrongInputs() {
        ExtentStore x = new ExtentStore(20);
        int[] wrong = {-1, 6, 7, Integer.MAX_VALUE, Integer.MIN_VALUE};
        for (int f : wrong) {
            Check.due("extents(" + f + ")", x.extents(f), -1);
        }
        Check.due("extents(5)", x.extents(5), 0);
    }
}
