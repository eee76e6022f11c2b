public final class Promise01NewObjectTest {
    public static void main(String[] args) {
        everythingIsEmpty();
        int[][] groups = {{1, 1}, {2, 2}, {7, 7}, {19, 19}, {20, 20}, {0, 1}, {-1, 1}, {Integer.MIN_VALUE, 1},
            {21, 20}, {96, 20}, {Integer.MAX_VALUE, 20}};
        for (int[] pair : groups) {
            commitComesAfter(pair[0], pair[1]);
        }
        objectsAreApart();
        Check.end();
    }

    private static void everythingIsEmpty() {
        ExtentStore x = new ExtentStore(20);
        for (int f = 0; f < 6; f++) {
            Check.due("extents(" + f + ")", x.extents(f), 0);
            for (int b = 0; b < 32; b++) {
                Check.due("place(" + f + ", " + b + ")", x.place(f, b), -1);
                Check.due("read(" + f + ", " + b + ")", x.read(f, b), 0);
            }
        }
        x = new ExtentStore(20);
        Check.due("changes()", x.changes(), 0);
        for (int s = 0; s < 3; s++) {
            for (int b = 0; b < 32; b++) {
                Check.due("past(" + s + ", " + b + ")", x.past(s, b), 0);
            }
            Check.no("revert(0, " + s + ")", x.revert(0, s));
            Check.no("drop(" + s + ")", x.drop(s));
        }
        for (int p = 0; p < 96; p++) {
            Check.due("uses(" + p + ")", x.uses(p), 0);
        }
        Check.due("free(0)", x.free(0), 96);
        Check.due("free(1)", x.free(1), 96);
        Check.due("free(2)", x.free(2), 1);
        Check.due("crash()", x.crash(), 0);
        Check.due("commit()", x.commit(), 0);
    }

    private static void commitComesAfter(int group, int due) {
        ExtentStore x = new ExtentStore(group);
        for (int i = 1; i < due; i++) {
            Check.yes("write", x.write(0, i, i));
            Check.due("group " + group + ", changes() after " + i, x.changes(), i);
            Check.due("group " + group + ", uses before the commit", x.uses(x.place(0, i)), 101);
        }
        Check.yes("write", x.write(0, 0, 5));
        Check.due("group " + group + ", changes() at the commit", x.changes(), 0);
        Check.due("group " + group + ", crash() after the commit", x.crash(), 0);
        Check.due("group " + group + ", read(0, 0)", x.read(0, 0), 5);
    }

    private static void objectsAreApart() {
        ExtentStore x = new ExtentStore(20);
        ExtentStore y = new ExtentStore(1);
        Check.yes("write on x", x.write(0, 0, 9));
        Check.due("read on y", y.read(0, 0), 0);
        Check.due("free(0) on y", y.free(0), 96);
        Check.due("changes() on x", x.changes(), 1);
    }
}
