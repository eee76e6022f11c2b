public final class Promise17ChangesTest {
    public static void main(String[] args) {
        eachKindOfChange();
        otherCallsDoNotCount();
        commitsAndCrashesBeginAnew();
        groupOfOne();
        Check.end();
    }

    private static void eachKindOfChange() {
        ExtentStore x = new ExtentStore(20);
        Check.due("at first", x.changes(), 0);
        x.snap(0, 1);
        x.write(0, 0, 1);
        Check.due("write", x.changes(), 1);
        x.write(0, 0, 1);
        Check.due("write in place", x.changes(), 2);
        x.punch(0, 9, 1);
        Check.due("punch", x.changes(), 3);
        x.copy(0, 0, 0, 2, 1);
        Check.due("copy", x.changes(), 4);
        x.gather(0);
        Check.due("gather", x.changes(), 5);
        x.revert(0, 0);
        Check.due("revert", x.changes(), 6);
    }

    private static void otherCallsDoNotCount() {
        ExtentStore x = new ExtentStore(20);
        x.write(0, 0, 1);
        x.read(0, 0);
        x.past(0, 0);
        x.place(0, 0);
        x.uses(0);
        x.free(0);
        x.extents(0);
        x.changes();
        x.write(0, 32, 1);
        x.punch(0, 0, 0);
        x.copy(0, 0, 0, 1, 32);
        x.revert(0, 0);
        x.gather(0);
        x.snap(0, 6);
        x.drop(0);
        Check.due("changes()", x.changes(), 1);
    }

    private static void commitsAndCrashesBeginAnew() {
        ExtentStore x = new ExtentStore(3);
        x.write(0, 0, 1);
        x.commit();
        Check.due("commit", x.changes(), 0);
        x.write(0, 0, 1);
        x.crash();
        Check.due("crash", x.changes(), 0);
        x.write(0, 0, 1);
        x.snap(0, 0);
        Check.due("snap", x.changes(), 0);
        x.write(0, 0, 1);
        x.drop(0);
        Check.due("drop", x.changes(), 0);
        x.write(0, 0, 1);
        x.write(0, 0, 1);
        Check.due("two", x.changes(), 2);
        x.write(0, 0, 1);
        Check.due("GROUP", x.changes(), 0);
    }

    private static void groupOfOne() {
        ExtentStore x = new ExtentStore(1);
        x.write(0, 0, 1);
        Check.due("changes()", x.changes(), 0);
        x.write(0, 0, 2);
        Check.due("never own", x.place(0, 0), 1);
        x.write(0, 0, 3);
        Check.due("changes()", x.changes(), 0);
        Check.due("the one before is free again", x.place(0, 0), 0);
    }
}
