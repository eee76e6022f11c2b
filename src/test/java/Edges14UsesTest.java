// The edges that promise 14 names.
public final class Edges14UsesTest {
    public static void main(String[] args) {
        Check.sentence("How many logical blocks of files are mapped to physical block p", Edges14UsesTest::files);
        Check.sentence("How many logical blocks of snapshots are mapped to physical block p",
            Edges14UsesTest::snapshots);
        Check.sentence("of files and snapshots: all of them", Edges14UsesTest::all);
        Check.sentence("of files and snapshots: not of the committed maps", Edges14UsesTest::notOfTheCommittedMaps);
        Check.sentence("plus 100 if it is in use: else none", Edges14UsesTest::free);
        Check.sentence("plus 100 if it is in use: by the committed maps alone", Edges14UsesTest::committedAlone);
        Check.sentence("-1 if p is not 0 to 95: too small", Edges14UsesTest::tooSmall);
        Check.sentence("-1 if p is not 0 to 95: too large", Edges14UsesTest::tooLarge);
        Check.end();
    }

    private static void files() {
        TestStore x = new TestStore(20);
        x.write(3, 3, 1).yes();
        x.uses(48).is(101);
        int due = 101;
        for (int f = 0; f < 6; f++) {
            x.copy(3, 3, f, 0, 1).yes();
            x.copy(3, 3, f, 31, 1).yes();
            due += 2;
            x.uses(48).is(due);
        }
        x.uses(47).is(0);
        x.uses(49).is(0);
        x.punch(3, 3, 1).yes();
        x.uses(48).is(112);
    }

    private static void snapshots() {
        TestStore x = new TestStore(20);
        x.write(3, 0, 1).yes();
        x.copy(3, 0, 3, 31, 1).yes();
        for (int s = 0; s < 3; s++) {
            x.snap(s, 3).yes();
            x.uses(48).is(104 + 2 * s);
        }
        x.punch(3, 0, 32).yes();
        x.commit().is(2);
        for (int s = 0; s < 3; s++) {
            x.uses(48).is(106 - 2 * s);
            x.drop(s).yes();
        }
        x.uses(48).is(0);
    }

    private static void all() {
        TestStore x = States.allOnOneBlock();
        x.uses(0).is(292);
        for (int s = 0; s < 3; s++) {
            x.snap(s, s).yes();
        }
        x.uses(0).is(388);
        x.uses(1).is(0);
        x.uses(95).is(0);
    }

    private static void notOfTheCommittedMaps() {
        TestStore x = States.full();
        x.uses(0).is(101);
        x.uses(95).is(101);
        x.commit().is(16);
        x.uses(0).is(101);
        x.uses(95).is(101);
    }

    private static void free() {
        TestStore x = new TestStore(20);
        for (int p = 0; p < 96; p++) {
            x.uses(p).is(0);
        }
        TestStore y = States.full();
        y.punch(2, 16, 16).yes();
        for (int p = 0; p < 96; p++) {
            y.uses(p).is(p < 80 ? 101 : 0);
        }
    }

    private static void committedAlone() {
        TestStore x = States.full();
        x.commit().is(16);
        for (int f = 0; f < 3; f++) {
            x.punch(f, 0, 32).yes();
        }
        for (int p = 0; p < 96; p++) {
            x.uses(p).is(100);
        }
        x.commit().is(96);
        for (int p = 0; p < 96; p++) {
            x.uses(p).is(0);
        }
    }

    private static void tooSmall() {
        int[] blocks = {-1, -2, -96, -100, Integer.MIN_VALUE};
        TestStore empty = new TestStore(20);
        TestStore full = States.full();
        for (int p : blocks) {
            empty.uses(p).is(-1);
            full.uses(p).is(-1);
        }
        full.uses(0).is(101);
    }

    private static void tooLarge() {
        int[] blocks = {96, 97, 127, 192, Integer.MAX_VALUE};
        TestStore empty = new TestStore(20);
        TestStore full = States.full();
        for (int p : blocks) {
            empty.uses(p).is(-1);
            full.uses(p).is(-1);
        }
        full.uses(95).is(101);
    }
}
