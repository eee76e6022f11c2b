public final class Promise06CommitTest {
    public static void main(String[] args) {
        countsWhatIsMappedOtherwise();
        freesWhatOnlyTheOldMapsHad();
        groupCommitsByItself();
        refusedCallsAndOthersAreNoChanges();
        Check.end();
    }

    private static void countsWhatIsMappedOtherwise() {
        ExtentStore x = new ExtentStore(20);
        Check.due("commit() of nothing", x.commit(), 0);
        x.write(0, 0, 1);
        x.write(5, 31, 2);
        x.write(5, 31, 3);
        Check.due("changes()", x.changes(), 3);
        Check.due("commit() of two blocks", x.commit(), 2);
        Check.due("changes()", x.changes(), 0);
        Check.due("commit() again", x.commit(), 0);
        x.write(0, 0, 4);
        x.punch(5, 31, 1);
        x.write(2, 3, 5);
        x.write(2, 4, 5);
        x.punch(2, 4, 1);
        Check.due("moved, punched and new; not what came and went", x.commit(), 3);
        x.punch(0, 0, 1);
        x.copy(2, 3, 0, 0, 1);
        Check.due("mapped to another block", x.commit(), 1);
        x.copy(0, 0, 2, 3, 1);
        Check.due("mapped to the same block", x.commit(), 0);
    }

    private static void freesWhatOnlyTheOldMapsHad() {
        ExtentStore x = new ExtentStore(20);
        x.write(1, 0, 1);
        x.commit();
        x.write(1, 0, 2);
        Check.due("uses(16)", x.uses(16), 100);
        Check.due("free(0)", x.free(0), 94);
        x.commit();
        Check.due("uses(16)", x.uses(16), 0);
        Check.due("uses(17)", x.uses(17), 101);
        Check.due("free(0)", x.free(0), 95);
        x.write(1, 0, 3);
        Check.due("not own after the commit, its goal is free", x.place(1, 0), 16);
        x.crash();
        Check.due("read(1, 0)", x.read(1, 0), 2);
    }

    private static void groupCommitsByItself() {
        ExtentStore x = new ExtentStore(5);
        x.write(0, 0, 1);
        x.write(0, 2, 2);
        x.snap(0, 0);
        Check.due("snap commits", x.changes(), 0);
        x.write(0, 1, 3);
        x.punch(0, 2, 1);
        x.copy(0, 0, 1, 0, 1);
        x.revert(2, 0);
        Check.due("changes()", x.changes(), 4);
        Check.yes("gather is the fifth change", x.gather(0));
        Check.due("changes()", x.changes(), 0);
        Check.due("crash()", x.crash(), 0);
        Check.due("read(0, 1)", x.read(0, 1), 3);
        x.write(4, 0, 1);
        x.write(4, 0, 2);
        Check.due("commit()", x.commit(), 1);
        for (int i = 1; i <= 4; i++) {
            x.write(4, i, i);
        }
        Check.due("the count begins anew at a commit", x.changes(), 4);
        Check.due("crash()", x.crash(), 4);
        for (int i = 1; i <= 4; i++) {
            x.write(4, i, i);
        }
        Check.due("and at a crash", x.changes(), 4);
        x.write(4, 5, 5);
        Check.due("crash()", x.crash(), 0);
    }

    private static void refusedCallsAndOthersAreNoChanges() {
        ExtentStore x = new ExtentStore(2);
        x.write(0, 0, 1);
        x.write(6, 0, 1);
        x.punch(0, 0, 0);
        x.copy(0, 0, 0, 0, 0);
        x.revert(0, 0);
        x.gather(0);
        x.snap(3, 0);
        x.drop(0);
        Check.due("changes()", x.changes(), 1);
        Check.due("not committed", x.crash(), 1);
    }
}
