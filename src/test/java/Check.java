import java.util.function.Function;
import java.util.function.IntBinaryOperator;
import java.util.function.Supplier;

// Counts the answers that are not as due; every test ends with end().
final class Check {
    private static int wrong = 0;

    private Check() {
    }

    static void due(String call, Object got, Object want) {
        if (!got.equals(want)) {
            wrong++;
            System.out.println(call + " answered " + got + ", due is " + want);
        }
    }

    // A test that stands for one sentence of the document, whose words are told if it fails.
    static void sentence(String words, Runnable test) {
        int before = wrong;
        try {
            test.run();
        } catch (RuntimeException thrown) {
            wrong++;
            System.out.println("thrown: " + thrown);
        }
        if (wrong > before) {
            System.out.println("  does not hold: " + words);
        }
    }

    static void yes(String call, boolean got) {
        due(call, got, true);
    }

    static void no(String call, boolean got) {
        due(call, got, false);
    }

    // Compares every answer that tells of the state of two objects. Each is made anew for each part of the
    // questions, as nothing is promised of an object after its 512th call.
    static void same(String what, Supplier<ExtentStore> one, Supplier<ExtentStore> other) {
        samePart(what, "places", one, other, Check::places);
        samePart(what, "values", one, other, Check::values);
        samePart(what, "snapshots", one, other, Check::snapshots);
        samePart(what, "disk and counts", one, other, Check::diskAndCounts);
        samePart(what, "committed places", one, other, x -> x.crash() + places(x));
        samePart(what, "committed values", one, other, x -> x.crash() + values(x));
        samePart(what, "snapshots there", one, other, x -> x.drop(0) + " " + x.drop(1) + " " + x.drop(2));
        samePart(what, "snapshots' places", one, other,
            x -> x.revert(0, 0) + " " + x.revert(1, 1) + " " + x.revert(2, 2) + places(x));
    }

    private static void samePart(String what, String part, Supplier<ExtentStore> one, Supplier<ExtentStore> other,
            Function<ExtentStore, String> asked) {
        String first = asked.apply(one.get());
        String second = asked.apply(other.get());
        if (!first.equals(second)) {
            wrong++;
            System.out.println(what + ": " + part + " differ\n  " + first + "\n  " + second);
        }
    }

    private static String places(ExtentStore x) {
        return grid(6, x::place);
    }

    private static String values(ExtentStore x) {
        return grid(6, x::read);
    }

    private static String snapshots(ExtentStore x) {
        return grid(3, x::past);
    }

    private static String grid(int maps, IntBinaryOperator asked) {
        StringBuilder text = new StringBuilder();
        for (int map = 0; map < maps; map++) {
            text.append("; ").append(map).append(':');
            for (int b = 0; b < 32; b++) {
                text.append(' ').append(asked.applyAsInt(map, b));
            }
        }
        return text.toString();
    }

    private static String diskAndCounts(ExtentStore x) {
        StringBuilder text = new StringBuilder("changes " + x.changes());
        for (int what = 0; what < 3; what++) {
            text.append(" free ").append(x.free(what));
        }
        for (int f = 0; f < 6; f++) {
            text.append(" extents ").append(x.extents(f));
        }
        for (int p = 0; p < 96; p++) {
            text.append(' ').append(x.uses(p));
        }
        return text.toString();
    }

    // Fills the disk: files 0, 1 and 2 get physical blocks 0 to 95 in order, with the block's number as its value.
    static void fillDisk(ExtentStore x) {
        for (int i = 0; i < 96; i++) {
            yes("fill " + i, x.write(i / 32, i % 32, i));
            due("place of fill " + i, x.place(i / 32, i % 32), i);
        }
    }

    static boolean isWrong() {
        return wrong != 0;
    }

    static void end() {
        if (wrong != 0) {
            System.out.println(wrong + " answers are not as due");
            System.exit(1);
        }
    }
}
