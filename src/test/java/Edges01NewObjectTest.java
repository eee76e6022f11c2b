// The edges that promise 1 names.
public final class Edges01NewObjectTest {
    public static void main(String[] args) {
        Check.sentence("group: GROUP", Edges01NewObjectTest::fromOneToTwenty);
        Check.sentence("below 1 becomes 1", Edges01NewObjectTest::belowOne);
        Check.sentence("above 20 becomes 20.", Edges01NewObjectTest::aboveTwenty);
        Check.end();
    }

    private static void commitsAt(int group, int due) {
        TestStore tooFew = new TestStore(group);
        for (int i = 1; i < due; i++) {
            tooFew.write(0, i, i).yes();
            tooFew.changes().is(i);
        }
        tooFew.crash().is(due - 1);

        TestStore x = new TestStore(group);
        for (int round = 0; round < 3; round++) {
            for (int i = 1; i < due; i++) {
                x.write(round, i, i).yes();
            }
            x.changes().is(due - 1);
            x.write(round, 0, 50 + round).yes();
            x.changes().is(0);
            x.crash().is(0);
            x.read(round, 0).is(50 + round);
        }
    }

    private static void fromOneToTwenty() {
        for (int group = 1; group <= 20; group++) {
            commitsAt(group, group);
        }
    }

    private static void belowOne() {
        int[] groups = {0, -1, -2, -20, Integer.MIN_VALUE + 1, Integer.MIN_VALUE};
        for (int group : groups) {
            commitsAt(group, 1);
        }
    }

    private static void aboveTwenty() {
        int[] groups = {21, 22, 40, 256, 1 << 16, Integer.MAX_VALUE - 1, Integer.MAX_VALUE};
        for (int group : groups) {
            commitsAt(group, 20);
        }
    }
}
