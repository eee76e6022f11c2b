public final class Promise09DropTest {
    public static void main(String[] args) {
        commitsAndFrees();
        othersStay();
        refusals();
        Check.end();
    }

    private static void commitsAndFrees() {
        ExtentStore x = new ExtentStore(20);
        x.write(0, 0, 1);
        x.write(0, 1, 2);
        x.snap(0, 0);
        x.punch(0, 0, 1);
        Check.due("uses(0)", x.uses(0), 101);
        Check.yes("drop(0)", x.drop(0));
        Check.due("it commits", x.changes(), 0);
        Check.due("crash()", x.crash(), 0);
        Check.due("read(0, 0)", x.read(0, 0), 0);
        Check.due("the snapshot's block is free", x.uses(0), 0);
        Check.due("the file's is not", x.uses(1), 101);
        Check.due("past(0, 0)", x.past(0, 0), 0);
        Check.due("past(0, 1)", x.past(0, 1), 0);
        Check.no("revert(1, 0)", x.revert(1, 0));
        Check.yes("it can be made again", x.snap(0, 0));
        Check.due("past(0, 0)", x.past(0, 0), 0);
        Check.due("past(0, 1)", x.past(0, 1), 2);
    }

    private static void othersStay() {
        ExtentStore x = new ExtentStore(20);
        x.write(0, 31, 1);
        x.snap(0, 0);
        x.snap(1, 0);
        x.snap(2, 0);
        Check.due("uses(0)", x.uses(0), 104);
        Check.yes("drop(1)", x.drop(1));
        Check.due("uses(0)", x.uses(0), 103);
        Check.due("past(0, 31)", x.past(0, 31), 1);
        Check.due("past(1, 31)", x.past(1, 31), 0);
        Check.due("past(2, 31)", x.past(2, 31), 1);
        Check.yes("drop(2)", x.drop(2));
        Check.yes("drop(0)", x.drop(0));
        Check.due("uses(0)", x.uses(0), 101);
    }

    private static ExtentStore oneThere() {
        ExtentStore x = new ExtentStore(20);
        x.snap(0, 0);
        x.write(0, 0, 1);
        return x;
    }

    private static ExtentStore oneThereAndRefusing() {
        ExtentStore x = oneThere();
        int[] wrong = {-1, 1, 2, 3, Integer.MAX_VALUE, Integer.MIN_VALUE};
        for (int s : wrong) {
            Check.no("drop(" + s + ")", x.drop(s));
        }
        return x;
    }

    private static void refusals() {
        Check.same("wrong drops", Promise09DropTest::oneThere, Promise09DropTest::oneThereAndRefusing);
        ExtentStore x = oneThereAndRefusing();
        Check.due("a refused one commits nothing", x.crash(), 1);
        Check.yes("drop(0)", x.drop(0));
        x.write(0, 0, 1);
        Check.no("drop(0) twice", x.drop(0));
        Check.due("changes()", x.changes(), 1);
    }
}
