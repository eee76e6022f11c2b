// The edges that promise 15 names.
public final class Edges15FreeTest {
    public static void main(String[] args) {
        Check.sentence("all are free", Edges15FreeTest::allFree);
        Check.sentence("none is free", Edges15FreeTest::noneFree);
        Check.sentence("What 0: how many physical blocks are free", Edges15FreeTest::howMany);
        Check.sentence("1: how many the longest row of free ones has", Edges15FreeTest::longest);
        Check.sentence("2: into how many rows the free ones fall.", Edges15FreeTest::rows);
        Check.sentence("row: 95 and 0 are not in one", Edges15FreeTest::noWrapAround);
        Check.sentence("free: not what the committed maps or a snapshot have", Edges15FreeTest::inUseByOthers);
        Check.sentence("-1 for any other what: too small", Edges15FreeTest::tooSmall);
        Check.sentence("-1 for any other what: too large", Edges15FreeTest::tooLarge);
        Check.end();
    }

    private static void freeIs(TestStore x, int total, int longest, int rows) {
        x.free(0).is(total);
        x.free(1).is(longest);
        x.free(2).is(rows);
    }

    private static void allFree() {
        freeIs(new TestStore(20), 96, 96, 1);
    }

    private static void noneFree() {
        freeIs(States.full(), 0, 0, 0);
        freeIs(States.dense(), 0, 0, 0);
    }

    private static void howMany() {
        freeIs(States.fullBut(0), 1, 1, 1);
        freeIs(States.fullBut(95), 1, 1, 1);
        freeIs(States.fullBut(47), 1, 1, 1);
        TestStore x = new TestStore(20);
        for (int i = 1; i <= 96; i++) {
            x.write((i - 1) / 32, (i - 1) % 32, 1).yes();
            x.free(0).is(96 - i);
        }
    }

    private static void longest() {
        freeIs(States.fullBut(0, 1, 2, 50, 51, 95), 6, 3, 3);
        freeIs(States.fullBut(0, 50, 51, 52, 94, 95), 6, 3, 3);
        freeIs(States.fullBut(0, 50, 51, 93, 94, 95), 6, 3, 3);
        freeIs(States.fullBut(10, 11, 20, 21), 4, 2, 2);
        TestStore allButTheFirst = new TestStore(20);
        allButTheFirst.write(0, 0, 1).yes();
        freeIs(allButTheFirst, 95, 95, 1);
        TestStore allButTheLast = new TestStore(20);
        for (int b = 0; b < 16; b++) {
            allButTheLast.write(5, b, b).yes();
        }
        allButTheLast.punch(5, 0, 15).yes();
        freeIs(allButTheLast, 95, 95, 1);
    }

    private static void rows() {
        freeIs(States.fullBut(1, 2, 3, 4), 4, 4, 1);
        freeIs(States.fullBut(1, 3), 2, 1, 2);
        freeIs(States.fullBut(0, 2, 93, 95), 4, 1, 4);
        TestStore x = States.full();
        for (int p = 0; p < 96; p += 2) {
            x.punch(p / 32, p % 32, 1).yes();
        }
        x.commit();
        freeIs(x, 48, 1, 48);
        for (int p = 1; p < 95; p += 4) {
            x.punch(p / 32, p % 32, 1).yes();
        }
        x.commit();
        freeIs(x, 72, 3, 24);
    }

    private static void noWrapAround() {
        freeIs(States.fullBut(0, 95), 2, 1, 2);
        freeIs(States.fullBut(0, 1, 94, 95), 4, 2, 2);
        TestStore x = new TestStore(20);
        x.write(3, 0, 1).yes();
        freeIs(x, 95, 48, 2);
    }

    private static void inUseByOthers() {
        TestStore x = new TestStore(20);
        x.write(3, 0, 1).yes();
        x.snap(0, 3).yes();
        x.punch(3, 0, 1).yes();
        freeIs(x, 95, 48, 2);
        x.commit().is(1);
        freeIs(x, 95, 48, 2);
        x.drop(0).yes();
        freeIs(x, 96, 96, 1);
        x.write(3, 0, 1).yes();
        x.commit().is(1);
        x.punch(3, 0, 1).yes();
        freeIs(x, 95, 48, 2);
        x.commit().is(1);
        freeIs(x, 96, 96, 1);
    }

    private static void tooSmall() {
        int[] whats = {-1, -2, -3, Integer.MIN_VALUE};
        for (int what : whats) {
            new TestStore(20).free(what).is(-1);
            States.full().free(what).is(-1);
        }
    }

    private static void tooLarge() {
        int[] whats = {3, 4, 5, 96, 1 << 16, Integer.MAX_VALUE};
        for (int what : whats) {
            new TestStore(20).free(what).is(-1);
            States.full().free(what).is(-1);
        }
    }
}
