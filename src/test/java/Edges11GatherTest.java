// The edges that promise 11 names.
public final class Edges11GatherTest {
    public static void main(String[] args) {
        Check.sentence("if there are n free physical blocks in a row: just so many", Edges11GatherTest::justSoMany);
        Check.sentence("in a row: at the disk's two ends", Edges11GatherTest::endsOfTheDisk);
        Check.sentence("in a row: 95 and 0 are not", Edges11GatherTest::noWrapAround);
        Check.sentence("the least such n become the places of these", Edges11GatherTest::theLeast);
        Check.sentence("with n mapped logical blocks: up to 32", Edges11GatherTest::wholeFile);
        Check.sentence("n mapped logical blocks: not as many as there are extents", Edges11GatherTest::fewerExtents);
        Check.sentence("n mapped logical blocks: one block that is mapped twice counts twice",
            Edges11GatherTest::mappedTwice);
        Check.sentence("in their order", Edges11GatherTest::inTheirOrder);
        Check.sentence("with the values that they had: true", Edges11GatherTest::values);
        Check.sentence("the places of these: the file's old blocks are not free for that",
            Edges11GatherTest::oldOnesAreNotFree);
        Check.sentence("n free physical blocks: those that others have are not", Edges11GatherTest::othersBlocks);
        Check.sentence("False, and nothing changes, if f is no file: too small", Edges11GatherTest::fileTooSmall);
        Check.sentence("False, and nothing changes, if f is no file: too large", Edges11GatherTest::fileTooLarge);
        Check.sentence("n is 0", Edges11GatherTest::noMappedBlock);
        Check.sentence("the file has one extent", Edges11GatherTest::oneExtent);
        Check.sentence("the file has one extent: two are enough", Edges11GatherTest::twoExtents);
        Check.sentence("or there are not so many in a row.", Edges11GatherTest::notSoMany);
        Check.end();
    }

    // Full, but for the blocks named; file 4's logical blocks 0, 1, 2 .. have the physical blocks 31, 30, 29 ..
    private static TestStore scattered(int n, int... free) {
        TestStore x = States.fullBut(free);
        for (int b = 0; b < n; b++) {
            x.copy(0, 31 - b, 4, b, 1).yes();
        }
        x.extents(4).is(n);
        return x;
    }

    private static void gathersTo(int due, int n, int... free) {
        TestStore x = scattered(n, free);
        x.gather(4).yes();
        for (int b = 0; b < n; b++) {
            x.place(4, b).is(due + b);
            x.read(4, b).is(32 - b);
            x.uses(due + b).is(101);
            x.uses(31 - b).is(101);
        }
        x.extents(4).is(1);
        x.free(0).is(free.length - n);
        x.changes().is(n + 1);
    }

    private static void refuses(int n, int... free) {
        States.refusedIn(() -> scattered(n, free), x -> x.gather(4));
    }

    private static void justSoMany() {
        gathersTo(50, 2, 50, 51);
        gathersTo(50, 3, 50, 51, 52);
        gathersTo(50, 5, 40, 41, 42, 43, 50, 51, 52, 53, 54, 60);
        refuses(3, 50, 51);
        refuses(4, 50, 51, 52);
    }

    private static void endsOfTheDisk() {
        gathersTo(0, 2, 0, 1);
        gathersTo(0, 3, 0, 1, 2, 50);
        gathersTo(94, 2, 94, 95);
        gathersTo(93, 3, 0, 1, 93, 94, 95);
    }

    private static void noWrapAround() {
        refuses(2, 0, 95);
        refuses(3, 0, 94, 95);
        refuses(3, 0, 1, 95);
        refuses(4, 0, 1, 2, 93, 94, 95);
    }

    private static void theLeast() {
        gathersTo(40, 2, 40, 41, 50, 51, 60, 61, 62);
        gathersTo(40, 2, 40, 41, 42, 43);
        gathersTo(50, 3, 40, 41, 50, 51, 52, 53, 60, 61, 62);
        gathersTo(60, 4, 40, 41, 42, 50, 51, 52, 60, 61, 62, 63, 64);
        gathersTo(50, 2, 48, 50, 51);
        gathersTo(2, 2, 0, 2, 3);
    }

    // File 4 has 32 extents, and file 1's blocks from b on, count of them, are free.
    private static TestStore wholeFileScattered(int b, int count) {
        TestStore x = States.full();
        for (int i = 0; i < 32; i++) {
            x.copy(0, 31 - i, 4, i, 1).yes();
        }
        x.punch(1, b, count).yes();
        x.commit();
        x.extents(4).is(32);
        x.free(1).is(count);
        return x;
    }

    private static void wholeFile() {
        TestStore x = wholeFileScattered(0, 32);
        x.gather(4).yes();
        for (int b = 0; b < 32; b++) {
            x.place(4, b).is(32 + b);
            x.read(4, b).is(32 - b);
        }
        x.free(0).is(0);
        States.refusedIn(() -> wholeFileScattered(0, 31), y -> y.gather(4));
        States.refusedIn(() -> wholeFileScattered(1, 31), y -> y.gather(4));
    }

    // File 4 has two extents, on 20 to 22 and 10 to 11.
    private static TestStore fiveInTwoExtents(int... free) {
        TestStore x = States.fullBut(free);
        x.copy(0, 20, 4, 1, 3).yes();
        x.copy(0, 10, 4, 4, 2).yes();
        x.extents(4).is(2);
        return x;
    }

    private static void fewerExtents() {
        TestStore x = fiveInTwoExtents(40, 41, 50, 51, 52, 53, 60, 61, 62, 63, 64, 70, 71, 72, 73, 74, 75);
        x.gather(4).yes();
        int[] values = {21, 22, 23, 11, 12};
        for (int i = 0; i < 5; i++) {
            x.place(4, i + 1).is(60 + i);
            x.read(4, i + 1).is(values[i]);
        }
        x.extents(4).is(1);
        x.free(0).is(12);
        States.refusedIn(() -> fiveInTwoExtents(40, 41, 50, 51, 52, 60, 61, 62, 63), y -> y.gather(4));
    }

    private static TestStore twiceTheSame(int... free) {
        TestStore x = States.fullBut(free);
        x.copy(0, 9, 4, 0, 1).yes();
        x.copy(0, 9, 4, 1, 1).yes();
        return x;
    }

    private static void mappedTwice() {
        TestStore x = twiceTheSame(70, 80, 81);
        x.gather(4).yes();
        x.place(4, 0).is(80);
        x.place(4, 1).is(81);
        x.read(4, 0).is(10);
        x.read(4, 1).is(10);
        x.uses(9).is(101);
        States.refusedIn(() -> twiceTheSame(70, 80), y -> y.gather(4));
    }

    private static void inTheirOrder() {
        TestStore x = new TestStore(20);
        int[] order = {20, 3, 31, 0, 9};
        for (int b : order) {
            x.write(2, b, b + 1).yes();
        }
        x.gather(2).yes();
        int[] sorted = {0, 3, 9, 20, 31};
        for (int i = 0; i < 5; i++) {
            x.place(2, sorted[i]).is(i);
            x.read(2, sorted[i]).is(sorted[i] + 1);
        }
        x.place(2, 1).is(-1);
        x.place(2, 30).is(-1);
        x.extents(2).is(5);
        x.free(0).is(91);
    }

    private static void values() {
        TestStore x = new TestStore(20);
        int[] values = {0, Integer.MIN_VALUE, Integer.MAX_VALUE, -1};
        for (int i = 0; i < 4; i++) {
            x.write(0, 2 * i, values[i]).yes();
        }
        x.commit().is(4);
        x.write(0, 2, 77).yes();
        x.gather(0).yes();
        x.place(0, 0).is(5);
        x.read(0, 0).is(0);
        x.read(0, 2).is(77);
        x.read(0, 4).is(Integer.MAX_VALUE);
        x.read(0, 6).is(-1);
        x.changes().is(2);
        x.crash().is(4);
        for (int i = 0; i < 4; i++) {
            x.place(0, 2 * i).is(i);
            x.read(0, 2 * i).is(values[i]);
        }
    }

    // File 4's blocks 0 and 1 are on 41 and 40, its own; the rest of the free blocks is not in a row.
    private static TestStore ownBlocksInARow(int... more) {
        TestStore x = States.fullBut(more);
        x.write(4, 1, 5).yes();
        x.write(4, 0, 6).yes();
        x.place(4, 1).is(40);
        x.place(4, 0).is(41);
        return x;
    }

    private static void oldOnesAreNotFree() {
        States.refusedIn(() -> ownBlocksInARow(40, 41), x -> x.gather(4));
        States.refusedIn(() -> ownBlocksInARow(40, 41, 42), x -> x.gather(4));
        TestStore x = ownBlocksInARow(40, 41, 42, 43);
        x.gather(4).yes();
        x.place(4, 0).is(42);
        x.place(4, 1).is(43);
        x.read(4, 0).is(6);
        x.free(0).is(2);
        x.uses(40).is(0);
    }

    private static TestStore punchedNotCommitted() {
        TestStore x = scattered(2);
        x.commit().is(2);
        x.punch(1, 8, 2).yes();
        return x;
    }

    private static TestStore inASnapshot() {
        TestStore x = scattered(2);
        x.snap(2, 1).yes();
        x.punch(1, 8, 2).yes();
        x.commit().is(2);
        return x;
    }

    private static void othersBlocks() {
        States.refusedIn(Edges11GatherTest::punchedNotCommitted, x -> x.gather(4));
        States.refusedIn(Edges11GatherTest::inASnapshot, x -> x.gather(4));
        TestStore committed = punchedNotCommitted();
        committed.commit().is(2);
        committed.gather(4).yes();
        committed.place(4, 0).is(40);
        TestStore dropped = inASnapshot();
        dropped.drop(2).yes();
        dropped.gather(4).yes();
        dropped.place(4, 1).is(41);
    }

    private static void fileTooSmall() {
        for (int f : States.TOO_SMALL) {
            States.refused(x -> x.gather(f));
        }
    }

    private static void fileTooLarge() {
        for (int f : States.TOO_LARGE_FILES) {
            States.refused(x -> x.gather(f));
        }
    }

    private static TestStore punchedEmpty() {
        TestStore x = States.busy(5);
        x.punch(0, 0, 32).yes();
        return x;
    }

    private static void noMappedBlock() {
        for (int f = 0; f < 6; f++) {
            int file = f;
            States.refusedIn(() -> new TestStore(1), x -> x.gather(file));
        }
        States.refused(x -> x.gather(4));
        States.refusedIn(Edges11GatherTest::punchedEmpty, x -> x.gather(0));
        States.refusedIn(States::full, x -> x.gather(3));
    }

    private static TestStore oneRun() {
        TestStore x = new TestStore(20);
        x.write(0, 0, 1).yes();
        x.write(1, 31, 1).yes();
        for (int b = 4; b < 9; b++) {
            x.write(2, b, b).yes();
        }
        x.copy(2, 5, 3, 20, 3).yes();
        x.extents(2).is(1);
        x.extents(3).is(1);
        return x;
    }

    private static void oneExtent() {
        for (int f = 0; f < 4; f++) {
            int file = f;
            States.refusedIn(Edges11GatherTest::oneRun, x -> x.gather(file));
        }
        States.refused(x -> x.gather(3));
        States.refusedIn(States::full, x -> x.gather(0));
        TestStore x = new TestStore(20);
        for (int b = 0; b < 32; b++) {
            x.write(0, b, b).yes();
        }
        x.gather(0).no();
        x.changes().is(12);
    }

    private static void twoExtents() {
        TestStore x = new TestStore(20);
        x.write(5, 0, 1).yes();
        x.write(5, 31, 2).yes();
        x.extents(5).is(2);
        x.gather(5).yes();
        x.place(5, 0).is(0);
        x.place(5, 31).is(1);
        x.extents(5).is(2);
        x.gather(5).yes();
        x.place(5, 0).is(2);
        x.gather(5).yes();
        x.place(5, 0).is(0);
        x.changes().is(5);
    }

    private static void notSoMany() {
        refuses(2);
        refuses(2, 50);
        refuses(2, 50, 52, 54);
        refuses(3, 40, 41, 50, 51, 60, 61);
        refuses(4, 0, 1, 2, 50, 51, 52, 93, 94, 95);
    }
}
