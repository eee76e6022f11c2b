import java.util.ArrayList;
import java.util.List;

// An ExtentStore that notes its calls, so that a wrong answer is told with the run that led to it, and so that no
// test leans on what is answered after the 512th call.
final class TestStore {
    private static final int CALLS = 512;
    private static final int TOLD = 8;

    private final ExtentStore store;
    private final List<String> calls = new ArrayList<>();

    TestStore(int group) {
        store = new ExtentStore(group);
        calls.add("new ExtentStore(" + group + ")");
    }

    ExtentStore store() {
        return store;
    }

    record Answer(String call, Object got) {
        void is(Object due) {
            Check.due(call, got, due);
        }

        void yes() {
            is(true);
        }

        void no() {
            is(false);
        }
    }

    // Called with the answer, so after the call itself; the constructor stands in the list too.
    private Answer told(Object got, String name, int... arguments) {
        StringBuilder call = new StringBuilder(name).append('(');
        for (int i = 0; i < arguments.length; i++) {
            call.append(i == 0 ? "" : ", ").append(arguments[i]);
        }
        calls.add(call.append(')').toString());
        if (calls.size() > CALLS + 1) {
            throw new IllegalStateException("a test makes more than " + CALLS + " calls");
        }
        int first = Math.max(0, calls.size() - TOLD);
        return new Answer(String.join("; ", calls.subList(first, calls.size())), got);
    }

    Answer write(int f, int b, int v) {
        return told(store.write(f, b, v), "write", f, b, v);
    }

    Answer read(int f, int b) {
        return told(store.read(f, b), "read", f, b);
    }

    Answer punch(int f, int b, int count) {
        return told(store.punch(f, b, count), "punch", f, b, count);
    }

    Answer copy(int f, int a, int g, int b, int count) {
        return told(store.copy(f, a, g, b, count), "copy", f, a, g, b, count);
    }

    Answer commit() {
        return told(store.commit(), "commit");
    }

    Answer crash() {
        return told(store.crash(), "crash");
    }

    Answer snap(int s, int f) {
        return told(store.snap(s, f), "snap", s, f);
    }

    Answer drop(int s) {
        return told(store.drop(s), "drop", s);
    }

    Answer revert(int f, int s) {
        return told(store.revert(f, s), "revert", f, s);
    }

    Answer gather(int f) {
        return told(store.gather(f), "gather", f);
    }

    Answer past(int s, int b) {
        return told(store.past(s, b), "past", s, b);
    }

    Answer place(int f, int b) {
        return told(store.place(f, b), "place", f, b);
    }

    Answer uses(int p) {
        return told(store.uses(p), "uses", p);
    }

    Answer free(int what) {
        return told(store.free(what), "free", what);
    }

    Answer extents(int f) {
        return told(store.extents(f), "extents", f);
    }

    Answer changes() {
        return told(store.changes(), "changes");
    }
}
