// The edges that promise 12 names.
public final class Edges12PastTest {
    public static void main(String[] args) {
        Check.sentence("The value of logical block b of snapshot s", Edges12PastTest::everyBlock);
        Check.sentence("of snapshot s: not of the file as it is now", Edges12PastTest::notOfTheFile);
        Check.sentence("0 for a hole", Edges12PastTest::hole);
        Check.sentence("or if there is no such block: s is not there", Edges12PastTest::notThere);
        Check.sentence("or if there is no such block: s too small or too large", Edges12PastTest::wrongSnapshot);
        Check.sentence("or if there is no such block: b too small or too large", Edges12PastTest::wrongBlock);
        Check.end();
    }

    private static void everyBlock() {
        TestStore x = States.dense();
        for (int s = 0; s < 3; s++) {
            for (int b = 0; b < 32; b++) {
                x.past(s, b).is(States.denseValue(s, b));
            }
        }
        TestStore y = new TestStore(20);
        y.write(0, 0, Integer.MIN_VALUE).yes();
        y.write(0, 31, Integer.MAX_VALUE).yes();
        y.snap(2, 0).yes();
        y.past(2, 0).is(Integer.MIN_VALUE);
        y.past(2, 31).is(Integer.MAX_VALUE);
    }

    private static void notOfTheFile() {
        TestStore x = States.busy(20);
        x.past(1, 1).is(102);
        x.past(1, 3).is(104);
        x.write(0, 0, 9).yes();
        x.past(1, 0).is(101);
        x.write(0, 9, 9).yes();
        x.past(1, 9).is(0);
        x.punch(0, 0, 32).yes();
        x.commit();
        for (int b = 0; b < 4; b++) {
            x.past(1, b).is(101 + b);
        }
    }

    private static void hole() {
        TestStore x = new TestStore(20);
        x.write(0, 1, 5).yes();
        x.snap(0, 0).yes();
        x.past(0, 0).is(0);
        x.past(0, 2).is(0);
        x.past(0, 31).is(0);
        x.snap(2, 4).yes();
        for (int b = 0; b < 32; b++) {
            x.past(2, b).is(0);
        }
    }

    private static void notThere() {
        TestStore x = States.dense();
        for (int s = 0; s < 3; s++) {
            x.drop(s).yes();
            x.past(s, 0).is(0);
            x.past(s, 31).is(0);
        }
        TestStore y = new TestStore(20);
        for (int s = 0; s < 3; s++) {
            y.past(s, 0).is(0);
            y.past(s, 31).is(0);
        }
    }

    private static void wrongSnapshot() {
        TestStore x = States.dense();
        for (int i = 0; i < States.TOO_SMALL.length; i++) {
            int small = States.TOO_SMALL[i];
            int large = States.TOO_LARGE_SNAPSHOTS[i];
            x.past(small, 0).is(0);
            x.past(small, 31).is(0);
            x.past(small, -32 * small).is(0);
            x.past(large, 0).is(0);
            x.past(large, 31).is(0);
            x.past(large, -32 * large).is(0);
        }
    }

    private static void wrongBlock() {
        TestStore x = States.dense();
        for (int i = 0; i < States.TOO_SMALL.length; i++) {
            for (int s = 0; s < 3; s++) {
                x.past(s, States.TOO_SMALL[i]).is(0);
                x.past(s, States.TOO_LARGE_BLOCKS[i]).is(0);
            }
        }
    }
}
