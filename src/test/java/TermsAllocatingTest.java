// The sentences of the document's "Terms" on allocating a physical block and its goal.
public final class TermsAllocatingTest {
    public static void main(String[] args) {
        Check.sentence("the GOAL is the physical block of the nearest logical block before b",
            TermsAllocatingTest::nearestBefore);
        Check.sentence("before b: not b itself, nor one after it", TermsAllocatingTest::notItselfNorAfter);
        Check.sentence("of this file", TermsAllocatingTest::ofThisFile);
        Check.sentence("that is mapped", TermsAllocatingTest::holesAreSkipped);
        Check.sentence("plus 1", TermsAllocatingTest::plusOne);
        Check.sentence("(96 counts as 0)", TermsAllocatingTest::goalAfterTheLastBlock);
        Check.sentence("16 f if none before b is.", TermsAllocatingTest::noneBefore);
        Check.sentence("The goal is taken if it is free", TermsAllocatingTest::goalIsFree);
        Check.sentence("else the least free block above it", TermsAllocatingTest::leastAbove);
        Check.sentence("else the least free block.", TermsAllocatingTest::leastOfAll);
        Check.sentence("The block is then mapped to b.", TermsAllocatingTest::mappedToB);
        Check.end();
    }

    private static void nearestBefore() {
        TestStore x = new TestStore(20);
        x.write(3, 0, 1).yes();
        x.write(2, 10, 1).yes();
        x.copy(3, 0, 2, 4, 1).yes();
        x.place(2, 4).is(48);
        x.place(2, 10).is(32);
        x.write(2, 30, 1).yes();
        x.place(2, 30).is(33);
        x.write(2, 7, 1).yes();
        x.place(2, 7).is(49);
        x.write(2, 31, 1).yes();
        x.place(2, 31).is(34);
        x.write(2, 5, 1).yes();
        x.place(2, 5).is(50);
    }

    private static void notItselfNorAfter() {
        TestStore itself = new TestStore(20);
        itself.write(3, 0, 1).yes();
        itself.copy(3, 0, 1, 5, 1).yes();
        itself.write(1, 5, 2).yes();
        itself.place(1, 5).is(16);

        TestStore after = new TestStore(20);
        after.write(3, 0, 1).yes();
        after.copy(3, 0, 4, 20, 1).yes();
        after.write(4, 19, 2).yes();
        after.place(4, 19).is(64);
    }

    private static void ofThisFile() {
        TestStore x = new TestStore(20);
        x.write(3, 0, 1).yes();
        x.copy(3, 0, 1, 31, 1).yes();
        x.write(2, 0, 2).yes();
        x.place(2, 0).is(32);
        x.copy(3, 0, 0, 3, 1).yes();
        x.write(5, 4, 2).yes();
        x.place(5, 4).is(80);
    }

    private static void holesAreSkipped() {
        TestStore x = new TestStore(20);
        x.write(4, 0, 1).yes();
        x.write(4, 31, 1).yes();
        x.place(4, 31).is(65);
        x.write(4, 30, 1).yes();
        x.place(4, 30).is(66);
        x.punch(4, 30, 2).yes();
        x.write(4, 31, 1).yes();
        x.place(4, 31).is(65);
        x.punch(4, 0, 32).yes();
        x.write(4, 31, 1).yes();
        x.place(4, 31).is(64);
    }

    private static void plusOne() {
        TestStore x = new TestStore(20);
        x.write(0, 0, 1).yes();
        x.place(0, 0).is(0);
        x.copy(0, 0, 2, 0, 1).yes();
        x.write(2, 1, 1).yes();
        x.place(2, 1).is(1);
        x.write(2, 2, 1).yes();
        x.place(2, 2).is(2);
        x.punch(2, 1, 1).yes();
        x.write(2, 3, 1).yes();
        x.place(2, 3).is(3);
    }

    // File 5's blocks 0 to 15 are then on 80 to 95.
    private static TestStore lastBlocksTaken() {
        TestStore x = new TestStore(20);
        for (int b = 0; b < 16; b++) {
            x.write(5, b, b).yes();
            x.place(5, b).is(80 + b);
        }
        return x;
    }

    private static void goalAfterTheLastBlock() {
        TestStore own = lastBlocksTaken();
        own.write(5, 16, 1).yes();
        own.place(5, 16).is(0);

        TestStore other = lastBlocksTaken();
        other.copy(5, 15, 3, 0, 1).yes();
        other.write(3, 1, 1).yes();
        other.place(3, 1).is(0);
        other.copy(5, 15, 2, 30, 1).yes();
        other.write(2, 31, 1).yes();
        other.place(2, 31).is(1);

        TestStore lastIsFree = lastBlocksTaken();
        lastIsFree.punch(5, 15, 1).yes();
        lastIsFree.copy(5, 14, 3, 0, 1).yes();
        lastIsFree.write(3, 1, 1).yes();
        lastIsFree.place(3, 1).is(95);
    }

    private static void noneBefore() {
        int[] blocks = {0, 1, 17, 31};
        for (int f = 0; f < 6; f++) {
            for (int b : blocks) {
                TestStore x = new TestStore(20);
                x.write(f, b, 1).yes();
                x.place(f, b).is(16 * f);
            }
        }
    }

    private static void goalIsFree() {
        TestStore x = States.fullBut(5, 33, 50, 51, 52, 53);
        x.write(1, 1, 1).yes();
        x.place(1, 1).is(33);

        TestStore atTheStart = States.fullBut(0, 95);
        atTheStart.write(0, 0, 1).yes();
        atTheStart.place(0, 0).is(0);

        TestStore atTheEnd = States.fullBut(0, 95);
        atTheEnd.write(2, 31, 1).yes();
        atTheEnd.place(2, 31).is(95);

        TestStore untouched = new TestStore(20);
        untouched.write(5, 0, 1).yes();
        untouched.place(5, 0).is(80);
    }

    private static void leastAbove() {
        TestStore x = States.fullBut(5, 40, 50, 51, 52, 95);
        x.write(1, 10, 1).yes();
        x.place(1, 10).is(50);

        TestStore next = States.fullBut(3, 17, 18, 60);
        next.write(4, 0, 1).yes();
        next.place(4, 0).is(3);
        next.write(3, 0, 1).yes();
        next.place(3, 0).is(60);

        TestStore last = States.fullBut(95);
        last.write(0, 0, 1).yes();
        last.place(0, 0).is(95);

        TestStore afterZero = States.fullBut(1, 2);
        afterZero.copy(2, 31, 4, 0, 1).yes();
        afterZero.write(4, 1, 1).yes();
        afterZero.place(4, 1).is(1);
    }

    private static void leastOfAll() {
        TestStore x = States.fullBut(20, 60, 79);
        x.write(5, 0, 1).yes();
        x.place(5, 0).is(20);

        TestStore first = States.fullBut(0);
        first.write(5, 31, 1).yes();
        first.place(5, 31).is(0);

        TestStore goalIsLast = States.fullBut(60, 70);
        goalIsLast.write(2, 31, 1).yes();
        goalIsLast.place(2, 31).is(60);

        TestStore justBelow = States.fullBut(15);
        justBelow.write(1, 0, 1).yes();
        justBelow.place(1, 0).is(15);
    }

    private static void mappedToB() {
        TestStore x = new TestStore(20);
        x.write(1, 5, 1).yes();
        x.commit().is(1);
        x.write(1, 5, 2).yes();
        x.place(1, 5).is(17);
        x.uses(16).is(100);
        x.uses(17).is(101);
        x.place(1, 4).is(-1);
        x.place(1, 6).is(-1);
    }
}
