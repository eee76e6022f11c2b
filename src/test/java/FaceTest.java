import java.io.IOException;
import java.lang.reflect.Constructor;
import java.lang.reflect.Field;
import java.lang.reflect.Method;
import java.lang.reflect.Modifier;
import java.nio.file.Files;
import java.nio.file.Path;
import java.util.HashSet;
import java.util.Set;
import java.util.TreeSet;
import java.util.regex.Matcher;
import java.util.regex.Pattern;

// The public face of the document, and those rules of LANGUAGE.md that can be checked without parsing Java.
public final class FaceTest {
    private static final String[] FACE = {
        "boolean write(int, int, int)", "int read(int, int)", "boolean punch(int, int, int)",
        "boolean copy(int, int, int, int, int)", "int commit()", "int crash()", "boolean snap(int, int)",
        "boolean drop(int)", "boolean revert(int, int)", "boolean gather(int)", "int past(int, int)",
        "int place(int, int)", "int uses(int)", "int free(int)", "int extents(int)", "int changes()"};
    private static final String[] BANNED = {"import", "package", "throw", "throws", "try", "catch", "finally",
        "synchronized", "assert", "instanceof", "null", "float", "double", "String", "Math", "Integer", "Long",
        "System", "Arrays", "Object", "enum", "interface", "record", "protected", "var"};

    public static void main(String[] args) throws IOException {
        methods();
        constructorAndFields();
        sourceText();
        Check.end();
    }

    private static String shapeOf(Method method) {
        StringBuilder text = new StringBuilder(method.getReturnType() + " " + method.getName() + "(");
        String between = "";
        for (Class<?> type : method.getParameterTypes()) {
            text.append(between).append(type);
            between = ", ";
        }
        return text + ")";
    }

    private static void methods() {
        Set<String> shapes = new TreeSet<>();
        Set<String> publicNames = new HashSet<>();
        for (Method method : ExtentStore.class.getDeclaredMethods()) {
            if (Modifier.isPublic(method.getModifiers())) {
                shapes.add(shapeOf(method));
                publicNames.add(method.getName());
            }
        }
        Check.due("the public methods " + shapes, shapes.size(), FACE.length);
        for (String shape : FACE) {
            Check.yes(shape + " is there", shapes.contains(shape));
        }
        for (Method method : ExtentStore.class.getDeclaredMethods()) {
            int modifiers = method.getModifiers();
            boolean isPrivate = Modifier.isPrivate(modifiers);
            Check.yes(method.getName() + " is public or private", isPrivate || Modifier.isPublic(modifiers));
            Check.no(method.getName() + " is private and named as a public one",
                isPrivate && publicNames.contains(method.getName()));
            Check.no(method.getName() + " answers an array", method.getReturnType().isArray());
            Check.yes(method.getName() + " has seven parameters at most", method.getParameterCount() <= 7);
        }
    }

    private static boolean isAllowed(Class<?> type) {
        Class<?> base = type.isArray() ? type.getComponentType() : type;
        return base.isPrimitive() && base != float.class && base != double.class;
    }

    private static void constructorAndFields() {
        int modifiers = ExtentStore.class.getModifiers();
        Check.yes("public and final", Modifier.isPublic(modifiers) && Modifier.isFinal(modifiers));
        Check.due("nested classes", ExtentStore.class.getDeclaredClasses().length, 0);
        Constructor<?>[] constructors = ExtentStore.class.getDeclaredConstructors();
        Check.due("constructors", constructors.length, 1);
        Check.yes("public ExtentStore(int)", Modifier.isPublic(constructors[0].getModifiers())
            && constructors[0].getParameterCount() == 1 && constructors[0].getParameterTypes()[0] == int.class);
        int fields = 0;
        for (Field field : ExtentStore.class.getDeclaredFields()) {
            Check.yes(field.getName() + " is private", Modifier.isPrivate(field.getModifiers()));
            Check.yes(field.getName() + " has an allowed type", isAllowed(field.getType()));
            if (Modifier.isStatic(field.getModifiers())) {
                Check.yes(field.getName() + " is a constant", Modifier.isFinal(field.getModifiers())
                    && (field.getType() == int.class || field.getType() == long.class));
            } else {
                fields++;
            }
        }
        Check.yes("forty fields at most", fields <= 40);
    }

    private static void sourceText() throws IOException {
        String source = Files.readString(Path.of("src/main/java/ExtentStore.java"));
        String code = source.replaceAll("//[^\n]*", "").replaceAll("(?s)/\\*.*?\\*/", "");
        for (String word : BANNED) {
            Matcher found = Pattern.compile("\\b" + word + "\\b").matcher(code);
            Check.no("the word " + word + " in the code", found.find());
        }
        Check.no("a lambda or a method reference", code.contains("->") || code.contains("::"));
        Check.no("a string or an annotation", code.contains("\"") || code.contains("@"));
        Matcher made = Pattern.compile("\\bnew\\b[^\n]*").matcher(code);
        Pattern inField = Pattern.compile("private final \\w+\\[\\] \\w+ = new \\w+\\[\\w+\\];");
        int arrays = 0;
        while (made.find()) {
            arrays++;
        }
        Matcher fields = inField.matcher(code);
        int initialisers = 0;
        while (fields.find()) {
            initialisers++;
        }
        Check.due("arrays that are not made in a field's initialiser", arrays - initialisers, 0);
    }
}
