public final class Promise12PastTest {
    public static void main(String[] args) {
        ExtentStore x = new ExtentStore(20);
        x.write(0, 0, 5);
        x.write(0, 31, -6);
        x.write(5, 0, 7);
        Check.due("no snapshot is there", x.past(0, 0), 0);
        x.snap(0, 0);
        x.snap(2, 5);
        Check.due("past(0, 0)", x.past(0, 0), 5);
        Check.due("past(0, 31)", x.past(0, 31), -6);
        Check.due("past(2, 0)", x.past(2, 0), 7);
        Check.due("a hole", x.past(0, 1), 0);
        Check.due("not there", x.past(1, 0), 0);
        x.write(0, 0, 50);
        x.write(0, 1, 51);
        x.punch(0, 31, 1);
        x.gather(0);
        x.commit();
        x.crash();
        Check.due("past(0, 0) never changes", x.past(0, 0), 5);
        Check.due("past(0, 1) never changes", x.past(0, 1), 0);
        Check.due("past(0, 31) never changes", x.past(0, 31), -6);
        int[][] wrong = {{-1, 31}, {3, 0}, {3, -1}, {2, 32}, {2, -32}, {1, -1}, {0, -1}, {0, 32}, {1, 32}, {-1, 32},
            {Integer.MAX_VALUE, 0}, {Integer.MIN_VALUE, 0}, {0, Integer.MAX_VALUE}, {0, Integer.MIN_VALUE},
            {1 << 27, 0}};
        for (int[] w : wrong) {
            Check.due("past(" + w[0] + ", " + w[1] + ")", x.past(w[0], w[1]), 0);
        }
        x.drop(0);
        Check.due("dropped", x.past(0, 0), 0);
        Check.end();
    }
}
