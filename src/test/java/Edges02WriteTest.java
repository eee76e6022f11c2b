// The edges that promise 2 names.
public final class Edges02WriteTest {
    private static final int[] ENDS = {0, 31};

    public static void main(String[] args) {
        Check.sentence("Logical block b of file f gets the value v", Edges02WriteTest::everyValue);
        Check.sentence("if it is mapped to a block that is OWN to it, this holds v", Edges02WriteTest::inPlace);
        Check.sentence("else a block is allocated for b, which holds v: b was a hole", Edges02WriteTest::wasAHole);
        Check.sentence("else a block is allocated for b, which holds v: b was the only hole",
            Edges02WriteTest::wasTheOnlyHole);
        Check.sentence("whatever b was before: shared in its own file", Edges02WriteTest::wasSharedInTheFile);
        Check.sentence("whatever b was before: shared with a file", Edges02WriteTest::wasSharedWithAFile);
        Check.sentence("whatever b was before: shared with a snapshot", Edges02WriteTest::wasInASnapshot);
        Check.sentence("whatever b was before: committed", Edges02WriteTest::wasCommitted);
        Check.sentence("False, and nothing changes, if f is no file: too small", Edges02WriteTest::fileTooSmall);
        Check.sentence("False, and nothing changes, if f is no file: too large", Edges02WriteTest::fileTooLarge);
        Check.sentence("b is not 0 to 31: too small", Edges02WriteTest::blockTooSmall);
        Check.sentence("b is not 0 to 31: too large", Edges02WriteTest::blockTooLarge);
        Check.sentence("or a block would have to be allocated and none is free", Edges02WriteTest::noneIsFree);
        Check.sentence("a block would have to be allocated: else a full disk does not matter",
            Edges02WriteTest::fullDiskInPlace);
        Check.sentence("(b's old one is not free for that).", Edges02WriteTest::oldOneIsNotFree);
        Check.sentence("none is free: the very last one is taken", Edges02WriteTest::lastFreeBlock);
        Check.end();
    }

    private static void everyValue() {
        int[] values = {0, 1, -1, 127, 128, -129, 32768, 1 << 30, Integer.MAX_VALUE, Integer.MIN_VALUE};
        for (int f = 0; f < 6; f++) {
            for (int b : ENDS) {
                TestStore x = new TestStore(20);
                for (int v : values) {
                    x.write(f, b, v).yes();
                    x.read(f, b).is(v);
                }
            }
        }
    }

    private static void inPlace() {
        TestStore x = new TestStore(20);
        x.write(3, 0, 1).yes();
        x.write(3, 31, 2).yes();
        for (int b : ENDS) {
            int p = b == 0 ? 48 : 49;
            x.write(3, b, 5).yes();
            x.place(3, b).is(p);
            x.read(3, b).is(5);
            x.write(3, b, 0).yes();
            x.place(3, b).is(p);
            x.read(3, b).is(0);
        }
        x.free(0).is(94);
        x.changes().is(6);
    }

    private static void wasAHole() {
        TestStore x = new TestStore(20);
        x.write(2, 0, 4).yes();
        x.place(2, 0).is(32);
        x.read(2, 0).is(4);
        x.punch(2, 0, 1).yes();
        x.write(2, 31, 0).yes();
        x.place(2, 31).is(32);
        x.read(2, 31).is(0);
    }

    private static void wasTheOnlyHole() {
        TestStore x = States.allOnOneBlock();
        for (int s = 0; s < 3; s++) {
            x.snap(s, s).yes();
        }
        x.punch(4, 6, 1).yes();
        x.write(4, 6, 9).yes();
        x.place(4, 6).is(1);
        x.read(4, 6).is(9);
    }

    private static void wasSharedInTheFile() {
        TestStore x = new TestStore(20);
        x.write(2, 3, 4).yes();
        x.copy(2, 3, 2, 9, 1).yes();
        x.write(2, 9, 5).yes();
        x.place(2, 9).is(33);
        x.read(2, 9).is(5);
        x.place(2, 3).is(32);
        x.read(2, 3).is(4);
    }

    private static void wasSharedWithAFile() {
        TestStore x = new TestStore(20);
        x.write(2, 3, 4).yes();
        x.copy(2, 3, 5, 31, 1).yes();
        x.write(5, 31, 5).yes();
        x.place(5, 31).is(80);
        x.read(5, 31).is(5);
        x.place(2, 3).is(32);
        x.read(2, 3).is(4);
    }

    private static void wasInASnapshot() {
        TestStore x = new TestStore(20);
        x.write(2, 3, 4).yes();
        x.snap(0, 2).yes();
        x.punch(2, 3, 1).yes();
        x.commit().is(1);
        x.revert(4, 0).yes();
        x.write(4, 3, 5).yes();
        x.place(4, 3).is(64);
        x.read(4, 3).is(5);
        x.past(0, 3).is(4);
    }

    private static void wasCommitted() {
        TestStore x = new TestStore(20);
        x.write(2, 3, 4).yes();
        x.commit().is(1);
        x.write(2, 3, 5).yes();
        x.place(2, 3).is(33);
        x.read(2, 3).is(5);
        x.crash().is(1);
        x.place(2, 3).is(32);
        x.read(2, 3).is(4);
    }

    private static void wrongFile(int f) {
        for (int b : ENDS) {
            States.refused(x -> x.write(f, b, 9));
        }
        States.refused(x -> x.write(f, -32 * f, 9));
    }

    private static void fileTooSmall() {
        for (int f : States.TOO_SMALL) {
            wrongFile(f);
        }
    }

    private static void fileTooLarge() {
        for (int f : States.TOO_LARGE_FILES) {
            wrongFile(f);
        }
    }

    private static void wrongBlock(int b) {
        for (int f = 0; f < 6; f++) {
            int file = f;
            States.refused(x -> x.write(file, b, 9));
        }
    }

    private static void blockTooSmall() {
        for (int b : States.TOO_SMALL) {
            wrongBlock(b);
        }
    }

    private static void blockTooLarge() {
        for (int b : States.TOO_LARGE_BLOCKS) {
            wrongBlock(b);
        }
    }

    // Full, with the physical block 95 shared by two files, and with the next change due to commit.
    private static TestStore fullWithAShared() {
        TestStore x = States.full();
        x.copy(2, 31, 5, 0, 1).yes();
        x.punch(5, 9, 1).yes();
        x.punch(5, 9, 1).yes();
        x.changes().is(19);
        x.free(0).is(0);
        return x;
    }

    private static void noneIsFree() {
        int[][] targets = {{3, 0}, {5, 31}, {2, 31}, {5, 0}, {0, 0}, {1, 31}};
        for (int[] t : targets) {
            States.refusedIn(Edges02WriteTest::fullWithAShared, x -> x.write(t[0], t[1], 9));
        }
        States.refusedIn(States::dense, x -> x.write(0, 0, 9));
        States.refusedIn(States::dense, x -> x.write(5, 31, 9));
    }

    private static void fullDiskInPlace() {
        TestStore x = States.full();
        x.write(2, 30, 9).yes();
        x.place(2, 30).is(94);
        x.read(2, 30).is(9);
        x.read(2, 31).is(96);
        x.changes().is(17);
    }

    private static void oldOneIsNotFree() {
        TestStore x = States.full();
        x.commit().is(16);
        for (int p = 0; p < 96; p++) {
            x.write(p / 32, p % 32, 9).no();
            x.place(p / 32, p % 32).is(p);
        }
        x.changes().is(0);
        x.commit().is(0);
    }

    private static void lastFreeBlock() {
        TestStore x = States.fullBut(77);
        x.write(0, 0, 9).yes();
        x.place(0, 0).is(77);
        x.uses(0).is(100);
        x.free(0).is(0);
        x.write(0, 1, 9).no();
        x.write(4, 0, 9).no();
        x.write(0, 0, 10).yes();
        x.commit().is(1);
        x.write(0, 0, 11).yes();
        x.place(0, 0).is(0);
        x.read(0, 0).is(11);
    }
}
