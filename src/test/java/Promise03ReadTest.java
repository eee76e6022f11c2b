public final class Promise03ReadTest {
    public static void main(String[] args) {
        ExtentStore x = new ExtentStore(20);
        x.write(0, 0, 11);
        x.write(0, 31, -12);
        x.write(5, 31, 13);
        x.write(4, 31, 14);
        Check.due("read(0, 0)", x.read(0, 0), 11);
        Check.due("read(0, 31)", x.read(0, 31), -12);
        Check.due("read(5, 31)", x.read(5, 31), 13);
        Check.due("a hole", x.read(0, 1), 0);
        x.punch(0, 0, 1);
        Check.due("a hole again", x.read(0, 0), 0);
        x.copy(5, 31, 1, 0, 1);
        Check.due("a shared block", x.read(1, 0), 13);
        int[][] wrong = {{-1, 31}, {6, 0}, {6, -1}, {5, -1}, {5, 32}, {0, 32}, {-1, 32}, {1, -1}, {1, -32},
            {Integer.MAX_VALUE, 31}, {Integer.MIN_VALUE, 31}, {0, Integer.MAX_VALUE}, {0, Integer.MIN_VALUE},
            {1 << 27, 31}};
        for (int[] w : wrong) {
            Check.due("read(" + w[0] + ", " + w[1] + ")", x.read(w[0], w[1]), 0);
        }
        Check.due("reading is no change", x.changes(), 6);
        Check.end();
    }
}
