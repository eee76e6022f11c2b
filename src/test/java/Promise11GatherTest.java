public final class Promise11GatherTest {
    public static void main(String[] args) {
        takesTheLeastRow();
        ownBlocksAreNotFreeForIt();
        sharedBlocksStayWithTheOthers();
        rowThatJustFits();
        refusals();
        Check.end();
    }

    private static void takesTheLeastRow() {
        ExtentStore x = new ExtentStore(20);
        x.write(0, 0, 1);
        x.write(0, 1, 2);
        x.punch(0, 0, 1);
        x.write(1, 3, 30);
        x.write(1, 0, 31);
        x.write(1, 31, 32);
        Check.due("extents(1)", x.extents(1), 3);
        Check.yes("gather(1)", x.gather(1));
        Check.due("block 0 alone is too short a row", x.place(1, 0), 2);
        Check.due("place(1, 3)", x.place(1, 3), 3);
        Check.due("place(1, 31)", x.place(1, 31), 4);
        Check.due("read(1, 0)", x.read(1, 0), 31);
        Check.due("read(1, 3)", x.read(1, 3), 30);
        Check.due("read(1, 31)", x.read(1, 31), 32);
        Check.due("the old ones are free", x.uses(16) + x.uses(17) + x.uses(18), 0);
        Check.due("holes stay holes", x.place(1, 1), -1);
        Check.due("it is a change", x.changes(), 7);
    }

    private static void ownBlocksAreNotFreeForIt() {
        ExtentStore x = new ExtentStore(20);
        x.write(0, 1, 1);
        x.write(0, 0, 2);
        Check.due("two extents", x.extents(0), 2);
        Check.yes("gather(0)", x.gather(0));
        Check.due("place(0, 0)", x.place(0, 0), 2);
        Check.due("place(0, 1)", x.place(0, 1), 3);
        Check.due("one extent", x.extents(0), 1);
        Check.no("one extent is refused", x.gather(0));
        x.commit();
        x.write(0, 1, 5);
        x.write(0, 0, 6);
        Check.due("commit", x.place(0, 0), 0);
        Check.due("extents(0)", x.extents(0), 2);
        Check.yes("gather(0)", x.gather(0));
        Check.due("committed blocks are not free for it", x.place(0, 0), 5);
        Check.due("crash()", x.crash(), 2);
        Check.due("read(0, 0)", x.read(0, 0), 2);
        Check.due("read(0, 1)", x.read(0, 1), 1);
    }

    private static void sharedBlocksStayWithTheOthers() {
        ExtentStore x = new ExtentStore(20);
        x.write(2, 0, 7);
        x.copy(2, 0, 2, 1, 1);
        x.copy(2, 0, 3, 0, 1);
        x.snap(0, 2);
        Check.due("the same block twice makes two extents", x.extents(2), 2);
        Check.yes("gather(2)", x.gather(2));
        Check.due("place(2, 0)", x.place(2, 0), 0);
        Check.due("place(2, 1)", x.place(2, 1), 1);
        Check.due("read(2, 0)", x.read(2, 0), 7);
        Check.due("read(2, 1)", x.read(2, 1), 7);
        Check.due("place(3, 0)", x.place(3, 0), 32);
        Check.due("past(0, 1)", x.past(0, 1), 7);
        Check.due("file 3 and twice the snapshot", x.uses(32), 103);
    }

    // The free rows are then 0 to 1, 3 to 4, 40 to 42 and 93 to 95.
    private static ExtentStore fewFreeRows() {
        ExtentStore x = new ExtentStore(20);
        Check.fillDisk(x);
        x.punch(0, 0, 2);
        x.punch(0, 3, 2);
        x.punch(1, 8, 3);
        x.punch(2, 29, 3);
        x.commit();
        Check.due("free(0)", x.free(0), 10);
        Check.due("free(2)", x.free(2), 4);
        return x;
    }

    // File 4's logical blocks 1, 3, 5 .. get the physical blocks 20, 19, 18 ..
    private static void scatter(ExtentStore x, int n) {
        for (int i = 0; i < n; i++) {
            x.copy(0, 20 - i, 4, 2 * i + 1, 1);
        }
        Check.due("extents(4)", x.extents(4), n);
    }

    private static void gatheredTo(ExtentStore x, int n, int start) {
        Check.yes("gather(4) of " + n, x.gather(4));
        for (int i = 0; i < n; i++) {
            Check.due("place(4, " + (2 * i + 1) + ")", x.place(4, 2 * i + 1), start + i);
            Check.due("read(4, " + (2 * i + 1) + ")", x.read(4, 2 * i + 1), 20 - i);
            Check.due("a hole stays one", x.place(4, 2 * i), -1);
        }
    }

    private static void rowThatJustFits() {
        ExtentStore two = fewFreeRows();
        scatter(two, 2);
        gatheredTo(two, 2, 0);

        ExtentStore three = fewFreeRows();
        scatter(three, 3);
        gatheredTo(three, 3, 40);
        gatheredTo(three, 3, 93);
        gatheredTo(three, 3, 40);
        three.commit();
        gatheredTo(three, 3, 93);
        Check.no("the committed row and the file's own are in use", three.gather(4));
        Check.due("changes()", three.changes(), 1);

        Check.same("no row of 4", Promise11GatherTest::fourScattered, Promise11GatherTest::fourRefused);
    }

    private static ExtentStore fourScattered() {
        ExtentStore x = fewFreeRows();
        scatter(x, 4);
        return x;
    }

    private static ExtentStore fourRefused() {
        ExtentStore x = fourScattered();
        Check.no("no row of 4, though 95 and 0 are free", x.gather(4));
        return x;
    }

    private static ExtentStore threeFiles() {
        ExtentStore x = new ExtentStore(20);
        x.write(0, 0, 1);
        x.write(0, 1, 1);
        x.write(1, 4, 1);
        x.write(2, 1, 1);
        x.write(2, 3, 1);
        return x;
    }

    private static ExtentStore threeFilesAndRefusing() {
        ExtentStore x = threeFiles();
        int[] wrong = {-1, 6, Integer.MAX_VALUE, Integer.MIN_VALUE, 0, 1, 3};
        for (int f : wrong) {
            Check.no("gather(" + f + ")", x.gather(f));
        }
        return x;
    }

    private static void refusals() {
        Check.same("wrong gathers", Promise11GatherTest::threeFiles, Promise11GatherTest::threeFilesAndRefusing);
        ExtentStore x = threeFiles();
        Check.yes("gather(2)", x.gather(2));
        Check.yes("more than one extent can stay so", x.gather(2));
        Check.due("place(2, 1)", x.place(2, 1), 4);
    }
}
