// The edges that promise 8 names.
public final class Edges08SnapTest {
    public static void main(String[] args) {
        Check.sentence("Commits", Edges08SnapTest::commits);
        Check.sentence("and then snapshot s is there", Edges08SnapTest::isThere);
        Check.sentence("mapped as file f is", Edges08SnapTest::mappedAsTheFile);
        Check.sentence("mapped as file f is: one without a mapped block", Edges08SnapTest::emptyFile);
        Check.sentence("true: also on a full disk", Edges08SnapTest::fullDisk);
        Check.sentence("false if s is not 0 to 2: too small", Edges08SnapTest::tooSmall);
        Check.sentence("false if s is not 0 to 2: too large", Edges08SnapTest::tooLarge);
        Check.sentence("or is there", Edges08SnapTest::alreadyThere);
        Check.sentence("or f is no file.", Edges08SnapTest::noFile);
        Check.end();
    }

    private static void commits() {
        for (int f = 0; f < 6; f++) {
            TestStore x = States.busy(20);
            x.snap(2, f).yes();
            x.changes().is(0);
            x.commit().is(0);
            x.crash().is(0);
            x.read(0, 1).is(202);
            x.place(0, 3).is(-1);
            x.read(3, 0).is(300);
            x.uses(2).is(f == 0 ? 104 : f == 2 ? 104 : 103);
        }
        TestStore nothing = new TestStore(20);
        nothing.snap(0, 0).yes();
        nothing.changes().is(0);
        nothing.crash().is(0);
    }

    private static void isThere() {
        for (int s = 0; s < 3; s++) {
            TestStore x = new TestStore(20);
            x.write(1, 1, 8).yes();
            x.snap(s, 1).yes();
            for (int other = 0; other < 3; other++) {
                x.past(other, 1).is(other == s ? 8 : 0);
                x.revert(4, other).is(other == s);
                x.drop(other).is(other == s);
            }
        }
    }

    private static void mappedAsTheFile() {
        for (int f = 0; f < 6; f++) {
            TestStore x = new TestStore(20);
            x.write(f, 0, 5).yes();
            x.write(f, 7, 6).yes();
            x.write(f, 31, 7).yes();
            x.write((f + 1) % 6, 3, 8).yes();
            x.snap(f % 3, f).yes();
            for (int b = 0; b < 32; b++) {
                x.past(f % 3, b).is(b == 0 ? 5 : b == 7 ? 6 : b == 31 ? 7 : 0);
            }
            x.uses(16 * f).is(102);
            int g = (f + 2) % 6;
            x.revert(g, f % 3).yes();
            x.place(g, 0).is(16 * f);
            x.place(g, 7).is(16 * f + 1);
            x.place(g, 31).is(16 * f + 2);
            x.place(g, 3).is(-1);
        }
    }

    private static void emptyFile() {
        TestStore x = new TestStore(20);
        x.write(0, 0, 1).yes();
        x.snap(0, 5).yes();
        x.snap(0, 5).no();
        x.past(0, 0).is(0);
        x.revert(0, 0).yes();
        x.place(0, 0).is(-1);
        x.drop(0).yes();
    }

    private static void fullDisk() {
        TestStore x = States.full();
        x.snap(0, 0).yes();
        x.snap(1, 1).yes();
        x.snap(2, 2).yes();
        x.past(2, 31).is(96);
        x.uses(95).is(102);
        x.free(0).is(0);
    }

    private static void tooSmall() {
        for (int s : States.TOO_SMALL) {
            States.refused(x -> x.snap(s, 0));
            States.refused(x -> x.snap(s, 5));
        }
    }

    private static void tooLarge() {
        for (int s : States.TOO_LARGE_SNAPSHOTS) {
            States.refused(x -> x.snap(s, 0));
            States.refused(x -> x.snap(s, 5));
        }
    }

    private static TestStore changedSince() {
        TestStore x = States.dense();
        x.punch(0, 0, 32).yes();
        x.copy(1, 0, 2, 0, 32).yes();
        return x;
    }

    private static void alreadyThere() {
        for (int f = 0; f < 6; f++) {
            int file = f;
            States.refused(x -> x.snap(1, file));
            for (int s = 0; s < 3; s++) {
                int snapshot = s;
                States.refusedIn(Edges08SnapTest::changedSince, x -> x.snap(snapshot, file));
            }
        }
        TestStore x = States.busy(20);
        x.drop(1).yes();
        x.snap(1, 3).yes();
        x.past(1, 0).is(300);
        x.past(1, 1).is(0);
    }

    private static void noFile() {
        for (int i = 0; i < States.TOO_SMALL.length; i++) {
            int small = States.TOO_SMALL[i];
            int large = States.TOO_LARGE_FILES[i];
            States.refused(x -> x.snap(0, small));
            States.refused(x -> x.snap(2, small));
            States.refused(x -> x.snap(0, large));
            States.refused(x -> x.snap(2, large));
        }
    }
}
