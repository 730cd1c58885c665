import java.lang.reflect.Constructor;
import java.lang.reflect.Field;
import java.lang.reflect.Method;
import java.lang.reflect.Modifier;
import java.util.Arrays;
import java.util.List;
import java.util.TreeSet;

// The class shows the document's face and nothing else, and its fields are of the allowed types.
final class FaceTest {
    private static final String[] CONSTANTS = {
        "ADD=1", "SUB=2", "MUL=3", "AND=4", "OR=5", "XOR=6", "SHL=7", "SHR=8", "NOT=9", "NEG=10",
        "CONST=11", "ARG=12", "VAR=13", "CVAR=14",
        "PRE_NONE=0", "PRE_EQ=1", "PRE_NE=2", "PRE_ULT=3", "PRE_UGE=4",
        "OK=0", "ERR_FULL=1", "ERR_SHAPE=2", "ERR_VARS=3", "ERR_PRE=4", "ERR_COST=5", "ERR_WRONG=6",
        "STAT_LIVE_NODES=0", "STAT_LIVE_COST=1", "STAT_ORIG_COST=2", "STAT_APPLICATIONS=3",
        "STAT_RULES=4", "STAT_COUNTEREXAMPLE=5", "STAT_OUTPUTS=6", "STAT_PHASE=7", "STAT_NODES=8"
    };
    private static final String[] METHODS = {
        "void ruleBegin []", "boolean rulePat [int, int]", "boolean ruleRep [int, int]",
        "boolean rulePre [int, int, int]", "int ruleCommit []", "int addNode [int, int, int]",
        "int addOutput [int]", "int optimize []", "void clearDag []", "int stat [int]",
        "int countOp [int]", "int ruleUses [int]", "int eval [int, int, boolean]",
        "int nodeAt [int, int, int]"
    };

    public static void main(String[] args) throws IllegalAccessException {
        Check check = new Check();
        constants(check);
        methods(check);
        constructors(check);
        fields(check);
        check.due("public and final", Modifier.isPublic(PeepholeRules.class.getModifiers())
            && Modifier.isFinal(PeepholeRules.class.getModifiers()), true);
        check.due("nested classes", PeepholeRules.class.getDeclaredClasses().length, 0);
        check.finish();
    }

    private static String sorted(String[] texts) {
        return new TreeSet<>(Arrays.asList(texts)).toString();
    }

    private static void constants(Check check) throws IllegalAccessException {
        TreeSet<String> found = new TreeSet<>();
        for (Field field : PeepholeRules.class.getDeclaredFields()) {
            int modifiers = field.getModifiers();
            if (!Modifier.isPrivate(modifiers)) {
                check.due(field.getName() + " is a public constant", Modifier.isPublic(modifiers)
                    && Modifier.isStatic(modifiers) && Modifier.isFinal(modifiers)
                    && field.getType() == int.class, true);
                found.add(field.getName() + "=" + field.getInt(null));
            }
        }
        check.due("public constants", found.toString(), sorted(CONSTANTS));
    }

    private static void methods(Check check) {
        TreeSet<String> found = new TreeSet<>();
        TreeSet<String> publicNames = new TreeSet<>();
        for (Method method : PeepholeRules.class.getDeclaredMethods()) {
            if (!Modifier.isPrivate(method.getModifiers())) {
                check.due(method.getName() + " is public, of the object",
                    method.getModifiers() == Modifier.PUBLIC, true);
                found.add(method.getReturnType() + " " + method.getName() + " "
                    + Arrays.toString(method.getParameterTypes()));
                publicNames.add(method.getName());
            }
        }
        check.due("public methods", found.toString(), sorted(METHODS));
        for (Method method : PeepholeRules.class.getDeclaredMethods()) {
            if (Modifier.isPrivate(method.getModifiers())) {
                check.due("private " + method.getName() + " bears a public name",
                    publicNames.contains(method.getName()), false);
                check.due(method.getName() + " takes at most seven parameters",
                    method.getParameterCount() <= 7, true);
            }
        }
    }

    private static void constructors(Check check) {
        Constructor<?>[] found = PeepholeRules.class.getDeclaredConstructors();
        check.due("constructors", found.length, 1);
        check.due("constructor", found[0].toString(), "public PeepholeRules(int,int)");
    }

    private static void fields(Check check) {
        List<Class<?>> numbers = List.of(int.class, long.class, short.class, byte.class, char.class, boolean.class);
        int count = 0;
        for (Field field : PeepholeRules.class.getDeclaredFields()) {
            Class<?> type = field.getType();
            if (Modifier.isStatic(field.getModifiers())) {
                check.due(field.getName() + " is a constant", Modifier.isFinal(field.getModifiers())
                    && (type == int.class || type == long.class), true);
            } else {
                check.due(field.getName() + " has an allowed type", numbers.contains(type)
                    || type.isArray() && numbers.contains(type.getComponentType()), true);
                count++;
            }
        }
        // "Some forty fields".
        check.due("too many fields", count > 44, false);
    }
}
