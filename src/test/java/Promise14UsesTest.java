public final class Promise14UsesTest {
    public static void main(String[] args) {
        countsFilesAndSnapshots();
        everyBlockOfEveryMap();
        wrongInputs();
        Check.end();
    }

    private static void countsFilesAndSnapshots() {
        ExtentStore x = new ExtentStore(20);
        Check.due("a free block", x.uses(0), 0);
        x.write(0, 0, 1);
        Check.due("one file", x.uses(0), 101);
        x.copy(0, 0, 0, 5, 1);
        x.copy(0, 0, 5, 31, 1);
        Check.due("three blocks of files", x.uses(0), 103);
        x.commit();
        Check.due("the committed maps do not count", x.uses(0), 103);
        x.snap(0, 0);
        Check.due("two blocks of a snapshot more", x.uses(0), 105);
        x.punch(0, 0, 32);
        x.punch(5, 0, 32);
        Check.due("the snapshot's", x.uses(0), 102);
        x.drop(0);
        Check.due("nobody's", x.uses(0), 0);
        x.write(5, 15, 1);
        x.commit();
        x.punch(5, 15, 1);
        Check.due("the committed maps' alone", x.uses(80), 100);
        x.crash();
        Check.due("the file's again", x.uses(80), 101);
    }

    private static void everyBlockOfEveryMap() {
        ExtentStore x = new ExtentStore(20);
        x.write(0, 0, 1);
        for (int count = 1; count < 32; count *= 2) {
            x.copy(0, 0, 0, count, count);
        }
        for (int f = 1; f < 6; f++) {
            x.copy(0, 0, f, 0, 32);
        }
        Check.due("all files", x.uses(0), 100 + 6 * 32);
        for (int s = 0; s < 3; s++) {
            x.snap(s, 5 - s);
        }
        Check.due("all files and snapshots", x.uses(0), 100 + 9 * 32);
        Check.due("free(0)", x.free(0), 95);
        for (int f = 0; f < 6; f++) {
            x.punch(f, 0, 32);
        }
        Check.due("all snapshots", x.uses(0), 100 + 3 * 32);
    }

    private static void wrongInputs() {
        ExtentStore x = new ExtentStore(20);
        Check.fillDisk(x);
        Check.due("uses(0)", x.uses(0), 101);
        Check.due("uses(95)", x.uses(95), 101);
        int[] wrong = {-1, 96, -2, 97, Integer.MAX_VALUE, Integer.MIN_VALUE};
        for (int p : wrong) {
            Check.due("uses(" + p + ")", x.uses(p), -1);
        }
    }
}
