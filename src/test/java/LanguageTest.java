import java.io.IOException;
import java.nio.file.Files;
import java.nio.file.Path;
import java.util.ArrayList;
import java.util.LinkedHashMap;
import java.util.List;
import java.util.Map;
import java.util.Set;
import java.util.TreeSet;
import java.util.regex.Matcher;
import java.util.regex.Pattern;

// Those rules of LANGUAGE.md that speak of what stands inside the methods, read from the source's text. It leans
// on the source being laid out with four spaces for each level, and fails if it finds no methods that way.
public final class LanguageTest {
    private static final int GREATEST_DEPTH = 6;
    private static final int GREATEST_LENGTH = 60;
    private static final Set<String> KEYWORDS = Set.of("if", "for", "while", "switch", "return");
    private static final Pattern CALL = Pattern.compile("\\b([a-zA-Z]\\w*)\\s*\\(");
    private static final Pattern METHOD =
        Pattern.compile("(?m)^    (?:public|private) [^=;{]*?(\\w+)\\([^)]*\\) \\{\n((?s:.*?))^    \\}$");
    private static final Pattern COUNTING = Pattern.compile(
        "for \\(int (\\w+) = [\\w -]+; \\1 (?:< (\\w+); \\1\\+\\+|>= (0); \\1--)\\) \\{");

    public static void main(String[] args) throws IOException {
        String source = Files.readString(Path.of("src/main/java/ExtentStore.java"));
        Map<String, String> bodies = bodiesIn(source.replaceAll(" *//[^\n]*", ""));
        Check.due("methods found in the text", bodies.size(), ExtentStore.class.getDeclaredMethods().length + 1);
        Check.sentence("Every loop has an end that can be seen from its own lines", () -> loops(bodies));
        Check.sentence("No recursion, calls go at most six deep", () -> depths(bodies));
        Check.sentence("no call stands inside the arguments of another call", () -> nestedCalls(bodies));
        Check.sentence("Methods stay short (some sixty lines)", () -> lengths(bodies));
        Check.sentence("The constructor makes all arrays before it calls a private method", () -> constructor(bodies));
        Check.end();
    }

    private static Map<String, String> bodiesIn(String code) {
        Map<String, String> bodies = new LinkedHashMap<>();
        Matcher method = METHOD.matcher(code);
        while (method.find()) {
            Check.no("two methods of the name " + method.group(1), bodies.containsKey(method.group(1)));
            bodies.put(method.group(1), method.group(2));
        }
        return bodies;
    }

    private static Set<String> callsIn(String text) {
        Set<String> calls = new TreeSet<>();
        Matcher call = CALL.matcher(text);
        while (call.find()) {
            if (!KEYWORDS.contains(call.group(1))) {
                calls.add(call.group(1));
            }
        }
        return calls;
    }

    private static void loops(Map<String, String> bodies) {
        bodies.forEach((name, body) -> {
            Check.no(name + " has a while or a do", Pattern.compile("\\b(while|do)\\b").matcher(body).find());
            Matcher loop = Pattern.compile("\\bfor\\b[^\n]*").matcher(body);
            while (loop.find()) {
                oneLoop(name + ": " + loop.group(), loop.group(), upTo('}', body, loop.end()));
            }
        });
    }

    private static void oneLoop(String what, String head, String inside) {
        Matcher counting = COUNTING.matcher(head);
        boolean counts = counting.matches();
        Check.yes(what + " counts against a bound", counts);
        if (counts) {
            String bound = counting.group(2) == null ? counting.group(3) : counting.group(2);
            Check.no(what + " sets its counter inside", isSet(counting.group(1), inside));
            Check.no(what + " sets its bound inside", isSet(bound, inside));
        }
    }

    private static boolean isSet(String variable, String text) {
        return Pattern.compile("\\b" + variable + "\\b *([-+*/%&|^]|<<|>>>?)?=[^=]|\\b" + variable
            + "(\\+\\+|--)|(\\+\\+|--)" + variable + "\\b").matcher(text).find();
    }

    // The text from a place just behind an opening bracket to the one that closes it.
    private static String upTo(char closing, String text, int start) {
        char opening = closing == '}' ? '{' : '(';
        int end = start;
        for (int open = 1; open > 0; end++) {
            open += text.charAt(end) == opening ? 1 : text.charAt(end) == closing ? -1 : 0;
        }
        return text.substring(start, end);
    }

    // Takes away, again and again, the methods that call none of those left: what stays is called in a ring.
    private static void depths(Map<String, String> bodies) {
        Map<String, Set<String>> left = new LinkedHashMap<>();
        bodies.forEach((name, body) -> left.put(name, callsIn(body)));
        left.forEach((name, calls) -> Check.yes(name + " calls its own class alone: " + calls,
            bodies.keySet().containsAll(calls)));
        int depth = 0;
        boolean goesOn = true;
        while (goesOn) {
            List<String> leaves = new ArrayList<>();
            left.forEach((name, calls) -> {
                if (calls.stream().noneMatch(left::containsKey)) {
                    leaves.add(name);
                }
            });
            leaves.forEach(left::remove);
            goesOn = !leaves.isEmpty();
            depth += goesOn ? 1 : 0;
        }
        Check.yes("methods that call one another in a ring: " + left.keySet(), left.isEmpty());
        Check.yes("calls go " + depth + " deep", depth <= GREATEST_DEPTH);
    }

    private static void nestedCalls(Map<String, String> bodies) {
        bodies.forEach((name, body) -> {
            Matcher call = CALL.matcher(body);
            while (call.find()) {
                if (!KEYWORDS.contains(call.group(1))) {
                    String arguments = upTo(')', body, call.end());
                    Check.yes(name + ": " + call.group(1) + "(" + arguments, callsIn(arguments).isEmpty());
                }
            }
        });
    }

    private static void lengths(Map<String, String> bodies) {
        bodies.forEach((name, body) -> {
            long lines = body.lines().count() + 2;
            Check.yes(name + " has " + lines + " lines", lines <= GREATEST_LENGTH);
        });
    }

    // Stricter than the rule: a constructor that calls nothing can't call too early.
    private static void constructor(Map<String, String> bodies) {
        Set<String> calls = callsIn(bodies.get("ExtentStore"));
        Check.yes("the constructor calls " + calls, calls.isEmpty());
    }
}
