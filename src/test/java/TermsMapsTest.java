import java.util.function.Consumer;

// The sentences of the document's "Terms" on the disk, the files, the snapshots and the committed maps.
public final class TermsMapsTest {
    public static void main(String[] args) {
        Check.sentence("An object is used for at most 512 calls after it has been made.", TermsMapsTest::lastCall);
        Check.sentence("THE DISK has 96 physical blocks, 0 to 95", TermsMapsTest::diskHas96Blocks);
        Check.sentence("each holding an int.", TermsMapsTest::eachHoldsAnInt);
        Check.sentence("FILES 0 to 5 always exist", TermsMapsTest::filesAlwaysExist);
        Check.sentence("each has logical blocks 0 to 31", TermsMapsTest::filesHave32Blocks);
        Check.sentence("of which each is a HOLE or MAPPED to a physical block", TermsMapsTest::holeOrMapped);
        Check.sentence("all are holes at first.", TermsMapsTest::allHolesAtFirst);
        Check.sentence("SNAPSHOTS 0 to 2 are there or not", TermsMapsTest::snapshotsAreThereOrNot);
        Check.sentence("one that is there has 32 logical blocks in the same way",
            TermsMapsTest::snapshotsHave32Blocks);
        Check.sentence("which never change.", TermsMapsTest::snapshotsNeverChange);
        Check.sentence("THE COMMITTED MAPS are those of the files at the latest commit", TermsMapsTest::latestCommit);
        Check.sentence("(all holes before the first one).", TermsMapsTest::noCommitYet);
        Check.end();
    }

    private static void lastCall() {
        TestStore x = new TestStore(20);
        for (int i = 1; i < 512; i++) {
            x.write(i % 3, i % 16, i).yes();
        }
        x.read(511 % 3, 511 % 16).is(511);
        TestStore y = new TestStore(7);
        for (int i = 1; i < 512; i++) {
            y.punch(0, 0, 1).yes();
        }
        y.changes().is(511 % 7);
        TestStore z = new TestStore(20);
        for (int i = 1; i < 512; i++) {
            z.write(0, 0, i).yes();
        }
        z.crash().is(1);
    }

    private static void diskHas96Blocks() {
        TestStore x = States.full();
        for (int p = 0; p < 96; p++) {
            x.place(p / 32, p % 32).is(p);
            x.uses(p).is(101);
        }
        x.uses(-1).is(-1);
        x.uses(96).is(-1);
        x.free(0).is(0);
        x.write(3, 0, 1).no();
    }

    private static int oddValue(int p) {
        int[] values = {Integer.MIN_VALUE, Integer.MAX_VALUE, 0, -1, 1, 255, -256, 65536, 1 << 31, p, -p};
        return values[p % values.length];
    }

    private static void eachHoldsAnInt() {
        TestStore x = new TestStore(20);
        for (int p = 0; p < 96; p++) {
            x.write(p / 32, p % 32, oddValue(p)).yes();
        }
        for (int p = 0; p < 96; p++) {
            x.read(p / 32, p % 32).is(oddValue(p));
        }
        x.write(2, 31, Integer.MAX_VALUE).yes();
        x.read(2, 31).is(Integer.MAX_VALUE);
        x.write(2, 31, Integer.MIN_VALUE).yes();
        x.read(2, 31).is(Integer.MIN_VALUE);
        x.write(2, 31, 0).yes();
        x.read(2, 31).is(0);
    }

    private static void filesExist(TestStore x) {
        for (int f = 0; f < 6; f++) {
            x.extents(f).is(0);
        }
        x.extents(-1).is(-1);
        x.extents(6).is(-1);
    }

    private static void filesAlwaysExist() {
        TestStore x = new TestStore(20);
        filesExist(x);
        for (int f = 0; f < 6; f++) {
            x.write(f, f, f + 1).yes();
            x.read(f, f).is(f + 1);
        }
        x.crash().is(6);
        filesExist(x);
        for (int f = 0; f < 6; f++) {
            x.write(f, f, 1).yes();
            x.punch(f, 0, 32).yes();
        }
        filesExist(x);
        x.commit().is(0);
        filesExist(x);
    }

    private static void filesHave32Blocks() {
        TestStore x = new TestStore(20);
        for (int f = 0; f < 6; f++) {
            x.write(f, 0, 10 * f + 1).yes();
            x.write(f, 31, 10 * f + 2).yes();
            x.write(f, -1, 99).no();
            x.write(f, 32, 99).no();
        }
        for (int f = 0; f < 6; f++) {
            x.read(f, 0).is(10 * f + 1);
            x.read(f, 31).is(10 * f + 2);
            for (int b = 1; b < 31; b++) {
                x.place(f, b).is(-1);
            }
        }
        x.free(0).is(84);
    }

    private static void holeOrMapped() {
        TestStore x = States.dense();
        for (int f = 0; f < 6; f++) {
            for (int b = 0; b < 32; b++) {
                x.place(f, b).is(f % 3 * 32 + b);
            }
        }
        for (int f = 0; f < 6; f++) {
            x.punch(f, 0, 32).yes();
            x.place(f, 0).is(-1);
            x.place(f, 31).is(-1);
        }
    }

    private static void allHolesAtFirst() {
        TestStore x = new TestStore(20);
        for (int f = 0; f < 6; f++) {
            for (int b = 0; b < 32; b++) {
                x.place(f, b).is(-1);
            }
        }
        for (int p = 0; p < 96; p++) {
            x.uses(p).is(0);
        }
    }

    private static void snapshotsAreThereOrNot() {
        TestStore x = new TestStore(20);
        x.write(0, 0, 7).yes();
        for (int s = 0; s < 3; s++) {
            x.drop(s).no();
            x.revert(1, s).no();
            x.past(s, 0).is(0);
        }
        for (int s = 0; s < 3; s++) {
            x.snap(s, 0).yes();
            x.snap(s, 0).no();
            x.revert(s + 1, s).yes();
            x.past(s, 0).is(7);
        }
        x.snap(3, 0).no();
        x.snap(-1, 0).no();
        for (int s = 2; s >= 0; s--) {
            x.drop(s).yes();
            x.drop(s).no();
            x.revert(1, s).no();
        }
    }

    private static void snapshotsHave32Blocks() {
        TestStore x = States.dense();
        for (int s = 0; s < 3; s++) {
            for (int b = 0; b < 32; b++) {
                x.past(s, b).is(States.denseValue(s, b));
            }
            x.past(s, -1).is(0);
            x.past(s, 32).is(0);
        }
        TestStore y = new TestStore(20);
        y.write(4, 31, 9).yes();
        y.snap(2, 4).yes();
        for (int b = 0; b < 31; b++) {
            y.past(2, b).is(0);
        }
        y.past(2, 31).is(9);
    }

    // Snapshot 0 is that of file 0, with blocks 0, 1, 2 and 31 on 0 to 3; snapshot 1 is that of the empty file 1.
    private static void snapshotStaysAfter(Consumer<TestStore> calls) {
        TestStore x = new TestStore(20);
        int[] blocks = {0, 1, 2, 31};
        for (int b : blocks) {
            x.write(0, b, 50 + b).yes();
        }
        x.snap(0, 0).yes();
        x.snap(1, 1).yes();
        calls.accept(x);
        for (int b = 0; b < 32; b++) {
            boolean mapped = b < 3 || b == 31;
            x.past(0, b).is(mapped ? 50 + b : 0);
            x.past(1, b).is(0);
        }
        x.revert(5, 0).yes();
        for (int b = 0; b < 32; b++) {
            x.place(5, b).is(b < 3 ? b : b == 31 ? 3 : -1);
        }
    }

    private static void snapshotsNeverChange() {
        snapshotStaysAfter(x -> x.write(0, 1, 99).yes());
        snapshotStaysAfter(x -> x.write(0, 5, 99).yes());
        snapshotStaysAfter(x -> x.punch(0, 0, 32).yes());
        snapshotStaysAfter(x -> x.copy(0, 0, 0, 1, 31).yes());
        snapshotStaysAfter(x -> x.gather(0).yes());
        snapshotStaysAfter(x -> x.revert(0, 1).yes());
        snapshotStaysAfter(x -> x.snap(0, 2).no());
        snapshotStaysAfter(x -> {
            x.punch(0, 0, 32).yes();
            x.commit().is(4);
            x.revert(3, 0).yes();
            x.write(3, 0, 99).yes();
            x.write(3, 31, 98).yes();
            x.crash().is(4);
        });
        snapshotStaysAfter(x -> {
            x.punch(0, 0, 32).yes();
            x.snap(2, 0).yes();
            x.drop(2).yes();
            for (int b = 0; b < 32; b++) {
                x.write(0, b, 77).yes();
            }
        });
    }

    private static void latestCommit() {
        TestStore x = new TestStore(20);
        for (int commit = 1; commit <= 3; commit++) {
            for (int f = 0; f < 6; f++) {
                x.write(f, 31, 10 * commit + f).yes();
                x.write(f, commit, commit).yes();
            }
            x.commit().is(12);
        }
        for (int f = 0; f < 6; f++) {
            x.write(f, 31, 99).yes();
            x.punch(f, 0, 4).yes();
        }
        x.crash().is(24);
        for (int f = 0; f < 6; f++) {
            x.read(f, 31).is(30 + f);
            x.read(f, 0).is(0);
            for (int b = 1; b <= 3; b++) {
                x.read(f, b).is(b);
            }
        }
    }

    private static void noCommitYet() {
        TestStore x = new TestStore(20);
        for (int f = 0; f < 6; f++) {
            x.write(f, 0, 1).yes();
            x.write(f, 31, 1).yes();
        }
        x.crash().is(12);
        for (int f = 0; f < 6; f++) {
            for (int b = 0; b < 32; b++) {
                x.place(f, b).is(-1);
            }
        }
        x.free(0).is(96);
        TestStore y = new TestStore(20);
        y.punch(0, 0, 1).yes();
        y.write(0, 0, 1).yes();
        y.commit().is(1);
    }
}
