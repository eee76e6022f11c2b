// The edges that promise 16 names; TermsExtentsTest has those of what an extent is.
public final class Edges16ExtentsTest {
    public static void main(String[] args) {
        Check.sentence("The number of extents of file f: of each file by itself", Edges16ExtentsTest::eachFile);
        Check.sentence("The number of extents of file f: none", Edges16ExtentsTest::none);
        Check.sentence("The number of extents of file f: the most", Edges16ExtentsTest::most);
        Check.sentence("-1 if there is no such file: too small", Edges16ExtentsTest::tooSmall);
        Check.sentence("-1 if there is no such file: too large", Edges16ExtentsTest::tooLarge);
        Check.end();
    }

    private static void eachFile() {
        TestStore x = new TestStore(20);
        for (int f = 0; f < 6; f++) {
            for (int i = 0; i <= f; i++) {
                x.write(f, 31 - 2 * i, 1).yes();
            }
        }
        for (int f = 0; f < 6; f++) {
            x.extents(f).is(f + 1);
        }
        TestStore y = States.dense();
        for (int f = 0; f < 6; f++) {
            y.extents(f).is(1);
        }
    }

    private static void none() {
        TestStore x = new TestStore(20);
        for (int f = 0; f < 6; f++) {
            x.extents(f).is(0);
        }
        TestStore y = States.dense();
        for (int f = 0; f < 6; f++) {
            y.punch(f, 0, 32).yes();
            y.extents(f).is(0);
        }
    }

    private static void most() {
        TestStore x = States.allOnOneBlock();
        for (int f = 0; f < 6; f++) {
            x.extents(f).is(32);
        }
    }

    private static void tooSmall() {
        TestStore x = new TestStore(20);
        TestStore y = States.dense();
        for (int f : States.TOO_SMALL) {
            x.extents(f).is(-1);
            y.extents(f).is(-1);
        }
    }

    private static void tooLarge() {
        TestStore x = new TestStore(20);
        TestStore y = States.dense();
        for (int f : States.TOO_LARGE_FILES) {
            x.extents(f).is(-1);
            y.extents(f).is(-1);
        }
    }
}
