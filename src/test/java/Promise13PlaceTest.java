public final class Promise13PlaceTest {
    public static void main(String[] args) {
        ExtentStore x = new ExtentStore(20);
        x.write(0, 31, 1);
        x.write(1, 31, 1);
        x.write(5, 0, 1);
        x.write(5, 31, 1);
        Check.due("place(0, 31)", x.place(0, 31), 0);
        Check.due("place(1, 31)", x.place(1, 31), 16);
        Check.due("place(5, 0)", x.place(5, 0), 80);
        Check.due("place(5, 31)", x.place(5, 31), 81);
        Check.due("a hole", x.place(5, 1), -1);
        x.copy(5, 0, 0, 0, 1);
        Check.due("a shared block", x.place(0, 0), 80);
        x.punch(5, 0, 1);
        Check.due("punched", x.place(5, 0), -1);
        int[][] wrong = {{-1, 31}, {6, 0}, {6, -1}, {1, -1}, {0, -1}, {0, 32}, {4, 32}, {5, 32}, {-1, 32}, {-1, 63},
            {Integer.MAX_VALUE, 31}, {Integer.MIN_VALUE, 31}, {0, Integer.MAX_VALUE}, {0, Integer.MIN_VALUE},
            {1 << 27, 31}};
        for (int[] w : wrong) {
            Check.due("place(" + w[0] + ", " + w[1] + ")", x.place(w[0], w[1]), -1);
        }
        Check.end();
    }
}
