import java.io.IOException;
import java.lang.reflect.Constructor;
import java.lang.reflect.Field;
import java.lang.reflect.Method;
import java.lang.reflect.Modifier;
import java.nio.file.Files;
import java.nio.file.Path;
import java.util.ArrayList;
import java.util.List;
import java.util.TreeSet;
import java.util.regex.Matcher;
import java.util.regex.Pattern;
import java.util.stream.Collectors;

// The class shows the face that stands in the document and nothing else, and its members are of the allowed types.
final class FaceTest {
    private static final Pattern CONSTANT = Pattern.compile("([A-Z_]+) = (\\d+)");
    private static final Pattern SIGNATURE = Pattern.compile("public (?:\\w+ )?\\w+\\(.*\\)");
    private static final List<Class<?>> NUMBERS =
        List.of(int.class, long.class, short.class, byte.class, char.class, boolean.class);

    private final String face;
    private final String source;

    private FaceTest(String face, String source) {
        this.face = face;
        this.source = source;
    }

    public static void main(String[] args) throws IOException {
        FaceTest test = new FaceTest(Sentences.code(), Files.readString(Path.of("src/main/java/PeepholeRules.java")));
        Sentences document = new Sentences("The public face");
        document.test("Each constant is declared as its own `public static final int` field", test::declarations);
        document.test("with the value shown", test::constants);
        document.testBeside("the class", test::classItself);
        document.testBeside("the constructor and the methods", test::methods);
        document.testBeside("the private methods", test::privateMethods);
        document.testBeside("the fields", test::fields);
        document.finish();
    }

    private static List<String> found(Pattern pattern, String text) {
        List<String> list = new ArrayList<>();
        Matcher matcher = pattern.matcher(text);
        while (matcher.find()) {
            list.add(matcher.group());
        }
        return list;
    }

    private void declarations(Check check) {
        List<String> constants = found(CONSTANT, face);
        check.due("constants of the document", constants.size(), 35);
        for (String constant : constants) {
            String declaration = "    public static final int " + constant + ";\n";
            check.due("declared: " + constant, source.contains(declaration), true);
        }
    }

    private static int valueOf(Field field) {
        try {
            return field.getInt(null);
        } catch (IllegalAccessException refused) {
            throw new IllegalStateException(refused);
        }
    }

    private void constants(Check check) {
        TreeSet<String> shown = new TreeSet<>();
        for (Field field : PeepholeRules.class.getDeclaredFields()) {
            int modifiers = field.getModifiers();
            if (!Modifier.isPrivate(modifiers)) {
                check.due(field.getName() + " is a public constant", Modifier.isPublic(modifiers)
                    && Modifier.isStatic(modifiers) && Modifier.isFinal(modifiers)
                    && field.getType() == int.class, true);
                shown.add(field.getName() + " = " + valueOf(field));
            }
        }
        check.due("public constants", shown.toString(), new TreeSet<>(found(CONSTANT, face)).toString());
    }

    private void classItself(Check check) {
        int modifiers = PeepholeRules.class.getModifiers();
        check.due("of the document", face.contains("public final class PeepholeRules {"), true);
        check.due("public and final", modifiers, Modifier.PUBLIC | Modifier.FINAL);
        check.due("in no package", PeepholeRules.class.getPackageName(), "");
        check.due("nested classes", PeepholeRules.class.getDeclaredClasses().length, 0);
        check.due("superclass", PeepholeRules.class.getSuperclass().getName(), "java.lang.Object");
        check.due("interfaces", PeepholeRules.class.getInterfaces().length, 0);
    }

    private static String withoutNames(String signature) {
        return signature.replaceAll("(int|boolean) \\w+([,)])", "$1$2").replace(", ", ",");
    }

    private void methods(Check check) {
        List<String> signatures = found(SIGNATURE, face);
        check.due("constructor and methods of the document", signatures.size(), 15);
        for (String signature : signatures) {
            check.due("written: " + signature, source.contains("    " + signature + " {\n"), true);
        }
        TreeSet<String> shown = new TreeSet<>();
        for (Method method : PeepholeRules.class.getDeclaredMethods()) {
            if (!Modifier.isPrivate(method.getModifiers())) {
                shown.add(method.toString().replace("PeepholeRules.", ""));
            }
        }
        for (Constructor<?> constructor : PeepholeRules.class.getDeclaredConstructors()) {
            shown.add(constructor.toString());
        }
        TreeSet<String> due = signatures.stream().map(FaceTest::withoutNames).collect(Collectors.toCollection(TreeSet::new));
        check.due("all that is not private", shown.toString(), due.toString());
    }

    private static boolean isAllowed(Class<?> type) {
        return NUMBERS.contains(type.isArray() ? type.getComponentType() : type);
    }

    private void privateMethods(Check check) {
        for (Method method : PeepholeRules.class.getDeclaredMethods()) {
            String name = method.getName();
            if (Modifier.isPrivate(method.getModifiers())) {
                check.due(name + " bears a public name", face.contains(" " + name + "("), false);
                check.due(name + " takes at most seven parameters", method.getParameterCount() <= 7, true);
                check.due(name + " answers a number or nothing",
                    method.getReturnType() == void.class || NUMBERS.contains(method.getReturnType()), true);
                for (Class<?> type : method.getParameterTypes()) {
                    check.due(name + " takes " + type, isAllowed(type), true);
                }
            }
        }
    }

    private void fields(Check check) {
        int count = 0;
        for (Field field : PeepholeRules.class.getDeclaredFields()) {
            Class<?> type = field.getType();
            boolean isFinal = Modifier.isFinal(field.getModifiers());
            if (Modifier.isStatic(field.getModifiers())) {
                check.due(field.getName() + " is a constant", isFinal && (type == int.class || type == long.class), true);
            } else {
                check.due(field.getName() + " has an allowed type", isAllowed(type), true);
                // A final array field is one that no method can assign to.
                check.due(field.getName() + " stays the same array", !type.isArray() || isFinal, true);
                count++;
            }
        }
        // "Some forty fields".
        check.due("too many fields", count > 44, false);
    }
}
