public final class Promise05CopyTest {
    public static void main(String[] args) {
        sharesBlocksAndHoles();
        overlapsUpAndDown();
        wholeFilesAndEdges();
        needsNoFreeBlock();
        Check.same("wrong copies", Promise05CopyTest::five, Promise05CopyTest::fiveAndRefusing);
        Check.end();
    }

    private static void sharesBlocksAndHoles() {
        ExtentStore x = new ExtentStore(20);
        x.write(0, 0, 1);
        x.write(0, 2, 3);
        x.write(3, 11, 9);
        Check.yes("copy(0, 0, 3, 10, 3)", x.copy(0, 0, 3, 10, 3));
        Check.due("place(3, 10)", x.place(3, 10), 0);
        Check.due("a hole is copied", x.place(3, 11), -1);
        Check.due("place(3, 12)", x.place(3, 12), 1);
        Check.due("what stood there is free", x.uses(48), 0);
        Check.due("uses(0)", x.uses(0), 102);
        Check.due("free(0)", x.free(0), 94);
        Check.due("changes()", x.changes(), 4);
        Check.yes("a copy onto itself", x.copy(0, 0, 0, 0, 32));
        Check.due("is a change", x.changes(), 5);
        Check.due("place(0, 2)", x.place(0, 2), 1);
    }

    private static ExtentStore five() {
        ExtentStore x = new ExtentStore(20);
        for (int i = 0; i < 5; i++) {
            x.write(0, i, i + 1);
        }
        return x;
    }

    private static void readsAs(ExtentStore x, int... values) {
        for (int b = 0; b < values.length; b++) {
            Check.due("read(0, " + b + ")", x.read(0, b), values[b]);
        }
    }

    private static void overlapsUpAndDown() {
        ExtentStore up = five();
        Check.yes("copy up", up.copy(0, 0, 0, 1, 5));
        readsAs(up, 1, 1, 2, 3, 4, 5, 0);
        Check.due("uses(0)", up.uses(0), 102);
        ExtentStore down = five();
        Check.yes("copy down", down.copy(0, 1, 0, 0, 5));
        readsAs(down, 2, 3, 4, 5, 0, 0);
        Check.due("uses(0)", down.uses(0), 0);
        ExtentStore far = five();
        Check.yes("copy by two", far.copy(0, 0, 0, 2, 5));
        readsAs(far, 1, 2, 1, 2, 3, 4, 5, 0);
    }

    private static void wholeFilesAndEdges() {
        ExtentStore x = new ExtentStore(20);
        x.write(5, 0, 1);
        x.write(5, 31, 2);
        x.write(0, 7, 3);
        Check.yes("copy(5, 0, 0, 0, 32)", x.copy(5, 0, 0, 0, 32));
        Check.due("read(0, 0)", x.read(0, 0), 1);
        Check.due("read(0, 7)", x.read(0, 7), 0);
        Check.due("read(0, 31)", x.read(0, 31), 2);
        Check.yes("copy(5, 31, 4, 0, 1)", x.copy(5, 31, 4, 0, 1));
        Check.due("read(4, 0)", x.read(4, 0), 2);
        Check.yes("copy(5, 0, 4, 31, 1)", x.copy(5, 0, 4, 31, 1));
        Check.due("read(4, 31)", x.read(4, 31), 1);
        Check.due("read(5, 0)", x.read(5, 0), 1);
    }

    private static void needsNoFreeBlock() {
        ExtentStore x = new ExtentStore(20);
        Check.fillDisk(x);
        Check.yes("copy on a full disk", x.copy(0, 0, 4, 0, 32));
        Check.due("read(4, 31)", x.read(4, 31), 31);
        Check.due("uses(31)", x.uses(31), 102);
    }

    private static ExtentStore fiveAndRefusing() {
        ExtentStore x = five();
        int big = Integer.MAX_VALUE;
        int[][] wrong = {{-1, 0, 1, 0, 1}, {6, 0, 1, 0, 1}, {0, 0, -1, 0, 1}, {0, 0, 6, 0, 1}, {0, 0, 1, 0, 0},
            {0, 0, 1, 0, -1}, {0, -1, 1, 0, 1}, {0, 32, 1, 0, 1}, {0, 0, 1, -1, 1}, {0, 0, 1, 32, 1},
            {0, 1, 1, 0, 32}, {0, 0, 1, 1, 32}, {0, 0, 1, 0, 33}, {0, 31, 1, 0, 2}, {0, 0, 1, 31, 2},
            {0, 1, 1, 1, big}, {0, big, 1, 0, 1}, {0, 0, 1, big, 1}, {0, big, 1, big, big},
            {0, 0, 1, 0, Integer.MIN_VALUE}, {0, -1, 1, 0, 3}, {1, -1, 2, 0, 2}, {1, 0, 2, -1, 2},
            {Integer.MIN_VALUE, 0, 1, 0, 1}, {0, 0, Integer.MIN_VALUE, 0, 1}};
        for (int[] w : wrong) {
            String call = "copy(" + w[0] + ", " + w[1] + ", " + w[2] + ", " + w[3] + ", " + w[4] + ")";
            Check.no(call, x.copy(w[0], w[1], w[2], w[3], w[4]));
        }
        return x;
    }
}
