// The edges that promise 10 names.
public final class Edges10RevertTest {
    public static void main(String[] args) {
        Check.sentence("File f gets the map of snapshot s", Edges10RevertTest::getsTheMap);
        Check.sentence("the map: also its holes", Edges10RevertTest::alsoHoles);
        Check.sentence("File f: no other file", Edges10RevertTest::noOtherFile);
        Check.sentence("File f gets the map: it is not committed by that", Edges10RevertTest::notCommitted);
        Check.sentence("true: also on a full disk, and if nothing differs", Edges10RevertTest::fullDisk);
        Check.sentence("false if f is no file: too small", Edges10RevertTest::fileTooSmall);
        Check.sentence("false if f is no file: too large", Edges10RevertTest::fileTooLarge);
        Check.sentence("or s is not 0 to 2: too small", Edges10RevertTest::snapshotTooSmall);
        Check.sentence("or s is not 0 to 2: too large", Edges10RevertTest::snapshotTooLarge);
        Check.sentence("or not there.", Edges10RevertTest::notThere);
        Check.end();
    }

    private static void getsTheMap() {
        for (int f = 0; f < 6; f++) {
            for (int s = 0; s < 3; s++) {
                TestStore x = States.dense();
                x.revert(f, s).yes();
                for (int b = 0; b < 32; b++) {
                    x.place(f, b).is(32 * s + b);
                    x.read(f, b).is(States.denseValue(s, b));
                }
                x.changes().is(1);
            }
        }
    }

    private static void alsoHoles() {
        TestStore x = States.busy(20);
        x.write(0, 31, 9).yes();
        x.revert(0, 1).yes();
        for (int b = 0; b < 32; b++) {
            x.place(0, b).is(b < 4 ? b : -1);
        }
        x.snap(0, 4).yes();
        x.revert(0, 0).yes();
        for (int b = 0; b < 32; b++) {
            x.place(0, b).is(-1);
        }
        x.past(1, 0).is(101);
    }

    private static void noOtherFile() {
        for (int f = 0; f < 6; f++) {
            TestStore x = States.dense();
            x.revert(f, (f + 1) % 3).yes();
            for (int g = 0; g < 6; g++) {
                int due = g == f ? (f + 1) % 3 : g % 3;
                x.place(g, 0).is(32 * due);
                x.place(g, 31).is(32 * due + 31);
            }
            x.commit().is(32);
        }
    }

    private static void notCommitted() {
        TestStore x = States.busy(20);
        x.revert(4, 1).yes();
        x.changes().is(5);
        x.uses(0).is(103);
        x.crash().is(9);
        x.place(4, 0).is(-1);
        TestStore y = States.busy(5);
        y.revert(4, 1).yes();
        y.changes().is(0);
        y.crash().is(0);
        y.read(4, 3).is(104);
    }

    private static void fullDisk() {
        TestStore x = States.dense();
        x.free(0).is(0);
        x.revert(0, 0).yes();
        x.revert(0, 2).yes();
        x.read(0, 31).is(96);
        x.changes().is(2);
        x.commit().is(32);
    }

    private static void fileTooSmall() {
        for (int f : States.TOO_SMALL) {
            States.refused(x -> x.revert(f, 1));
        }
    }

    private static void fileTooLarge() {
        for (int f : States.TOO_LARGE_FILES) {
            States.refused(x -> x.revert(f, 1));
        }
    }

    private static void snapshotTooSmall() {
        for (int s : States.TOO_SMALL) {
            States.refused(x -> x.revert(0, s));
            States.refused(x -> x.revert(5, s));
        }
    }

    private static void snapshotTooLarge() {
        for (int s : States.TOO_LARGE_SNAPSHOTS) {
            States.refused(x -> x.revert(0, s));
            States.refused(x -> x.revert(5, s));
        }
    }

    private static TestStore dropped() {
        TestStore x = States.busy(20);
        x.drop(1).yes();
        x.write(0, 0, 9).yes();
        return x;
    }

    private static void notThere() {
        for (int f = 0; f < 6; f++) {
            int file = f;
            States.refused(x -> x.revert(file, 0));
            States.refused(x -> x.revert(file, 2));
            States.refusedIn(Edges10RevertTest::dropped, x -> x.revert(file, 1));
        }
    }
}
