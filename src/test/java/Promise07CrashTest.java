public final class Promise07CrashTest {
    public static void main(String[] args) {
        beforeTheFirstCommit();
        takesFilesBackToTheCommit();
        snapshotsStay();
        Check.end();
    }

    private static void beforeTheFirstCommit() {
        ExtentStore x = new ExtentStore(20);
        x.write(0, 0, 1);
        x.write(3, 5, 2);
        x.copy(3, 5, 4, 0, 2);
        Check.due("crash()", x.crash(), 3);
        Check.due("changes()", x.changes(), 0);
        Check.due("read(0, 0)", x.read(0, 0), 0);
        Check.due("place(4, 0)", x.place(4, 0), -1);
        Check.due("free(0)", x.free(0), 96);
        Check.due("crash() again", x.crash(), 0);
    }

    private static ExtentStore committed() {
        ExtentStore x = new ExtentStore(20);
        for (int i = 0; i < 4; i++) {
            x.write(1, i, i + 1);
        }
        x.commit();
        return x;
    }

    private static ExtentStore changedAndCrashed() {
        ExtentStore x = committed();
        x.write(1, 0, 100);
        x.write(1, 0, 101);
        x.punch(1, 1, 1);
        x.write(2, 9, 5);
        x.copy(1, 2, 1, 3, 1);
        x.write(1, 31, 6);
        x.punch(1, 31, 1);
        Check.due("moved, punched, new and copied", x.crash(), 4);
        return x;
    }

    private static ExtentStore gatheredAndCrashed() {
        ExtentStore x = committed();
        x.write(1, 3, 9);
        Check.yes("gather(1)", x.gather(1));
        Check.due("gathered: all four", x.crash(), 4);
        return x;
    }

    private static void takesFilesBackToTheCommit() {
        Check.same("crash()", Promise07CrashTest::committed, Promise07CrashTest::changedAndCrashed);
        Check.same("crash() after gather", Promise07CrashTest::committed, Promise07CrashTest::gatheredAndCrashed);
        Check.due("nothing to commit", changedAndCrashed().commit(), 0);
    }

    private static void snapshotsStay() {
        ExtentStore x = new ExtentStore(20);
        x.write(0, 0, 1);
        x.snap(0, 0);
        x.punch(0, 0, 1);
        x.commit();
        x.revert(0, 0);
        x.write(0, 0, 2);
        Check.due("crash()", x.crash(), 1);
        Check.due("read(0, 0)", x.read(0, 0), 0);
        Check.due("past(0, 0)", x.past(0, 0), 1);
        Check.no("it is there", x.snap(0, 0));
        Check.due("uses(0)", x.uses(0), 101);
        x.write(0, 0, 3);
        x.drop(0);
        Check.due("drop had committed", x.crash(), 0);
        Check.no("a dropped one stays dropped", x.revert(0, 0));
    }
}
