// The sentence of the document's "Terms" on extents, part by part.
public final class TermsExtentsTest {
    public static void main(String[] args) {
        Check.sentence("EXTENTS of a file: the least number of runs", TermsExtentsTest::leastNumber);
        Check.sentence("into which its mapped logical blocks can be divided", TermsExtentsTest::mappedBlocksAlone);
        Check.sentence("such that in each run the logical blocks follow one another without a gap",
            TermsExtentsTest::logicalGap);
        Check.sentence("such that in each run the physical blocks follow one another without a gap",
            TermsExtentsTest::physicalGap);
        Check.sentence("follow: the other way round, or the same block again, is no run",
            TermsExtentsTest::otherOrders);
        Check.sentence("follow: physical block 0 does not follow 95", TermsExtentsTest::endOfTheDisk);
        Check.sentence("of a file: its first block does not follow the last one of the file before",
            TermsExtentsTest::filesAreApart);
        Check.end();
    }

    private static void leastNumber() {
        TestStore x = new TestStore(20);
        for (int b = 0; b < 32; b++) {
            x.write(1, b, b).yes();
            x.extents(1).is(1);
        }
        x.copy(1, 0, 2, 0, 2).yes();
        x.copy(1, 3, 2, 3, 2).yes();
        x.extents(2).is(2);
        x.copy(1, 2, 2, 2, 1).yes();
        x.extents(2).is(1);
    }

    private static void mappedBlocksAlone() {
        TestStore x = new TestStore(20);
        x.extents(0).is(0);
        x.punch(0, 0, 32).yes();
        x.extents(0).is(0);
        x.write(0, 31, 1).yes();
        x.extents(0).is(1);
        x.punch(0, 31, 1).yes();
        x.extents(0).is(0);
        x.write(0, 1, 1).yes();
        x.place(0, 1).is(0);
        x.extents(0).is(1);
    }

    private static void logicalGap() {
        TestStore x = new TestStore(20);
        for (int b = 0; b < 32; b += 2) {
            x.write(0, b, b).yes();
            x.place(0, b).is(b / 2);
            x.extents(0).is(b / 2 + 1);
        }
        TestStore y = new TestStore(20);
        y.write(0, 0, 1).yes();
        y.write(0, 1, 1).yes();
        y.write(0, 2, 1).yes();
        y.punch(0, 1, 1).yes();
        y.extents(0).is(2);
    }

    private static void physicalGap() {
        TestStore x = new TestStore(20);
        for (int b = 0; b < 32; b++) {
            x.write(0, b, b).yes();
        }
        for (int b = 0; b < 16; b++) {
            x.copy(0, 2 * b, 1, b, 1).yes();
            x.extents(1).is(b + 1);
        }
        x.copy(0, 0, 2, 0, 4).yes();
        x.copy(0, 5, 2, 4, 4).yes();
        x.extents(2).is(2);
    }

    private static void otherOrders() {
        TestStore x = new TestStore(20);
        for (int b = 0; b < 32; b++) {
            x.write(0, b, b).yes();
        }
        for (int b = 0; b < 32; b++) {
            x.copy(0, b, 1, 31 - b, 1).yes();
            x.copy(0, 9, 2, b, 1).yes();
        }
        x.extents(1).is(32);
        x.extents(2).is(32);
        x.copy(0, 0, 3, 4, 4).yes();
        x.copy(0, 0, 3, 8, 4).yes();
        x.extents(3).is(2);
    }

    private static void endOfTheDisk() {
        TestStore x = new TestStore(20);
        for (int b = 0; b < 18; b++) {
            x.write(5, b, b).yes();
        }
        x.place(5, 15).is(95);
        x.place(5, 16).is(0);
        x.extents(5).is(2);
        x.punch(5, 0, 15).yes();
        x.extents(5).is(2);
        x.punch(5, 15, 1).yes();
        x.extents(5).is(1);
    }

    private static void filesAreApart() {
        TestStore x = new TestStore(20);
        x.write(0, 0, 1).yes();
        x.write(0, 1, 1).yes();
        x.copy(0, 0, 2, 31, 1).yes();
        x.copy(0, 1, 3, 0, 1).yes();
        x.extents(2).is(1);
        x.extents(3).is(1);
        x.copy(0, 0, 5, 31, 1).yes();
        x.extents(5).is(1);
    }
}
