// The sentences of the document's "Terms" on blocks that are in use, free and own.
public final class TermsUseTest {
    private static final int[] ENDS = {0, 31};

    public static void main(String[] args) {
        Check.sentence("IN USE if a logical block of a file is mapped to it", TermsUseTest::inUseByAFile);
        Check.sentence("IN USE if a logical block of a snapshot is mapped to it", TermsUseTest::inUseByASnapshot);
        Check.sentence("IN USE if a logical block of the committed maps is mapped to it",
            TermsUseTest::inUseByTheCommittedMaps);
        Check.sentence("else it is free.", TermsUseTest::elseFree);
        Check.sentence("else it is free: every block, as often as nothing has it", TermsUseTest::freeAgain);
        Check.sentence("It is OWN to logical block b of file f if that is mapped to it", TermsUseTest::own);
        Check.sentence("and no other logical block of any file is", TermsUseTest::notOwnIfAFileHasIt);
        Check.sentence("or snapshot is", TermsUseTest::notOwnIfASnapshotHasIt);
        Check.sentence("and no logical block of the committed maps is.", TermsUseTest::notOwnIfCommitted);
        Check.end();
    }

    // File 0's goal for a block with none before it is 0: it is taken only if it is free.
    private static void zeroIsTaken(TestStore x, boolean free) {
        x.free(0).is(free ? 96 : 95);
        x.write(0, 3, 1).yes();
        x.place(0, 3).is(free ? 0 : 1);
    }

    private static void inUseByAFile() {
        TestStore x = new TestStore(20);
        x.write(0, 5, 1).yes();
        x.uses(0).is(101);
        zeroIsTaken(x, false);
        for (int f = 0; f < 6; f++) {
            for (int b : ENDS) {
                TestStore y = new TestStore(20);
                y.write(f, b, 1).yes();
                y.uses(16 * f).is(101);
                y.free(0).is(95);
            }
        }
    }

    private static void inUseByASnapshot() {
        for (int s = 0; s < 3; s++) {
            for (int b : ENDS) {
                TestStore x = new TestStore(20);
                x.write(0, b, 1).yes();
                x.snap(s, 0).yes();
                x.punch(0, b, 1).yes();
                x.commit().is(1);
                x.uses(0).is(101);
                zeroIsTaken(x, false);
                x.past(s, b).is(1);
            }
        }
    }

    private static void inUseByTheCommittedMaps() {
        TestStore x = new TestStore(20);
        x.write(0, 5, 1).yes();
        x.commit().is(1);
        x.punch(0, 5, 1).yes();
        x.uses(0).is(100);
        zeroIsTaken(x, false);
        for (int f = 0; f < 6; f++) {
            for (int b : ENDS) {
                TestStore y = new TestStore(20);
                y.write(f, b, 1).yes();
                y.commit().is(1);
                y.punch(f, b, 1).yes();
                y.uses(16 * f).is(100);
                y.free(0).is(95);
            }
        }
    }

    private static void elseFree() {
        TestStore neverCommitted = new TestStore(20);
        neverCommitted.write(0, 5, 1).yes();
        neverCommitted.punch(0, 5, 1).yes();
        neverCommitted.uses(0).is(0);
        zeroIsTaken(neverCommitted, true);

        TestStore committedAway = new TestStore(20);
        committedAway.write(0, 5, 1).yes();
        committedAway.commit().is(1);
        committedAway.punch(0, 5, 1).yes();
        committedAway.commit().is(1);
        committedAway.uses(0).is(0);
        zeroIsTaken(committedAway, true);

        TestStore crashed = new TestStore(20);
        crashed.write(0, 5, 1).yes();
        crashed.crash().is(1);
        crashed.uses(0).is(0);
        zeroIsTaken(crashed, true);

        TestStore dropped = new TestStore(20);
        dropped.write(0, 5, 1).yes();
        dropped.snap(2, 0).yes();
        dropped.punch(0, 5, 1).yes();
        dropped.drop(2).yes();
        dropped.uses(0).is(0);
        zeroIsTaken(dropped, true);
    }

    // The questions stand between the changes, so that nothing of an earlier look at the disk may be left.
    private static void freeAgain() {
        TestStore x = States.full();
        x.free(0).is(0);
        for (int f = 0; f < 3; f++) {
            x.punch(f, 0, 32).yes();
        }
        x.commit();
        x.free(0).is(96);
        x.free(1).is(96);
        for (int p = 0; p < 96; p++) {
            x.write(p / 32, p % 32, p).yes();
            x.place(p / 32, p % 32).is(p);
        }
        x.free(0).is(0);
        x.crash().is(16);
        x.free(0).is(16);
        x.uses(95).is(0);
        x.write(5, 0, 1).yes();
        x.place(5, 0).is(80);
        for (int p = 0; p < 80; p++) {
            x.uses(p).is(101);
        }
    }

    private static void own() {
        for (int f = 0; f < 6; f++) {
            for (int b : ENDS) {
                TestStore x = new TestStore(20);
                x.write(f, b, 1).yes();
                x.write(f, b, 2).yes();
                x.place(f, b).is(16 * f);
                x.read(f, b).is(2);
                x.free(0).is(95);
            }
        }
    }

    private static void notOwnIfAFileHasIt() {
        int[] blocks = {0, 6, 8, 31};
        for (int g = 0; g < 6; g++) {
            for (int b : blocks) {
                TestStore x = new TestStore(20);
                x.write(2, 7, 1).yes();
                x.copy(2, 7, g, b, 1).yes();
                x.write(2, 7, 2).yes();
                x.place(2, 7).is(33);
                x.read(2, 7).is(2);
                x.read(g, b).is(1);
                x.write(g, b, 3).yes();
                x.place(g, b).is(32);
                x.read(g, b).is(3);
                x.read(2, 7).is(2);
            }
        }
    }

    private static void notOwnIfASnapshotHasIt() {
        for (int s = 0; s < 3; s++) {
            for (int b : ENDS) {
                TestStore x = new TestStore(20);
                x.write(1, b, 1).yes();
                x.snap(s, 1).yes();
                x.punch(1, b, 1).yes();
                x.commit().is(1);
                x.revert(1, s).yes();
                x.write(1, b, 2).yes();
                x.place(1, b).is(17);
                x.past(s, b).is(1);
            }
        }
    }

    private static void notOwnIfCommitted() {
        for (int f = 0; f < 6; f++) {
            for (int b : ENDS) {
                TestStore same = new TestStore(20);
                same.write(f, b, 1).yes();
                same.commit().is(1);
                same.write(f, b, 2).yes();
                same.place(f, b).is(16 * f + 1);
                same.crash().is(1);
                same.read(f, b).is(1);

                int g = (f + 1) % 6;
                TestStore other = new TestStore(20);
                other.write(f, b, 1).yes();
                other.commit().is(1);
                other.copy(f, b, g, 9, 1).yes();
                other.punch(f, b, 1).yes();
                other.write(g, 9, 2).yes();
                other.place(g, 9).is(16 * g);
                other.crash().is(2);
                other.read(f, b).is(1);
            }
        }
        TestStore inOneFile = new TestStore(20);
        inOneFile.write(3, 4, 1).yes();
        inOneFile.commit().is(1);
        inOneFile.copy(3, 4, 3, 9, 1).yes();
        inOneFile.punch(3, 4, 1).yes();
        inOneFile.write(3, 9, 2).yes();
        inOneFile.place(3, 9).is(49);
    }
}
