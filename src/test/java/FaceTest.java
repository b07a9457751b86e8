import java.lang.reflect.Constructor;
import java.lang.reflect.Field;
import java.lang.reflect.Method;
import java.lang.reflect.Modifier;
import java.util.Set;
import java.util.TreeSet;

/** The document's public face, and what reflection can see of the rules in LANGUAGE.md. */
public final class FaceTest {
    private static final Set<String> FACE = Set.of(
        "int emit(int,int)", "int patch(int,int)", "int begin(int,int,int)", "void clear()",
        "int states(int)", "boolean possible(int,int,int)", "int values(int,int)",
        "int traps(int)", "boolean safe()", "int soonest(int)", "boolean canEnd()",
        "boolean canRunForever()", "int endless()");

    private static final Set<String> CONSTANTS =
        Set.of("BAD_OP", "FULL", "BAD_PLACE", "BAD_RANGE", "NEVER");

    private static final Check CHECK = new Check();

    public static void main(String[] args) {
        constants();
        theClass();
        methods();
        fields();
        CHECK.end();
    }

    private static void constants() {
        CHECK.due("BAD_OP", TrapProver.BAD_OP, -1);
        CHECK.due("FULL", TrapProver.FULL, -2);
        CHECK.due("BAD_PLACE", TrapProver.BAD_PLACE, -3);
        CHECK.due("BAD_RANGE", TrapProver.BAD_RANGE, -4);
        CHECK.due("NEVER", TrapProver.NEVER, -5);
    }

    private static void theClass() {
        int modifiers = TrapProver.class.getModifiers();
        CHECK.due("public final", Modifier.isPublic(modifiers) && Modifier.isFinal(modifiers), true);
        CHECK.due("extends Object", TrapProver.class.getSuperclass() == Object.class, true);
        CHECK.due("interfaces", TrapProver.class.getInterfaces().length, 0);
        CHECK.due("nested classes", TrapProver.class.getDeclaredClasses().length, 0);
        Constructor<?>[] constructors = TrapProver.class.getDeclaredConstructors();
        CHECK.due("constructors", constructors.length, 1);
        CHECK.due("public constructor", Modifier.isPublic(constructors[0].getModifiers()), true);
        CHECK.due("constructor's parameters", constructors[0].getParameterCount(), 0);
    }

    private static void methods() {
        Set<String> open = new TreeSet<>();
        Set<String> openNames = new TreeSet<>();
        for (Method method : TrapProver.class.getDeclaredMethods()) {
            if (!Modifier.isPrivate(method.getModifiers())) {
                open.add(signature(method));
                openNames.add(method.getName());
                CHECK.due(method + " is public", Modifier.isPublic(method.getModifiers()), true);
                CHECK.due(method + " is of an object", Modifier.isStatic(method.getModifiers()), false);
            }
        }
        CHECK.due("the face is the document's: " + open, open.equals(FACE), true);
        for (Method method : TrapProver.class.getDeclaredMethods()) {
            CHECK.due(method + " takes at most seven", method.getParameterCount() <= 7, true);
            if (Modifier.isPrivate(method.getModifiers())) {
                CHECK.due(method + " has its own name", openNames.contains(method.getName()), false);
            }
        }
    }

    private static String signature(Method method) {
        StringBuilder text = new StringBuilder(method.getReturnType() + " " + method.getName() + "(");
        for (int i = 0; i < method.getParameterCount(); i++) {
            text.append(i == 0 ? "" : ",").append(method.getParameterTypes()[i]);
        }
        return text.append(")").toString();
    }

    private static void fields() {
        Set<String> open = new TreeSet<>();
        int variables = 0;
        for (Field field : TrapProver.class.getDeclaredFields()) {
            int modifiers = field.getModifiers();
            if (!Modifier.isPrivate(modifiers)) {
                open.add(field.getName());
                CHECK.due(field + " is public", Modifier.isPublic(modifiers), true);
            }
            if (Modifier.isStatic(modifiers)) {
                boolean whole = field.getType() == int.class || field.getType() == long.class;
                CHECK.due(field + " is a constant", whole && Modifier.isFinal(modifiers), true);
            } else {
                variables++;
                CHECK.due(field + " has a type of rule 2", isOfRuleTwo(field.getType()), true);
            }
        }
        CHECK.due("the constants are the document's: " + open, open.equals(CONSTANTS), true);
        CHECK.due("some forty fields", variables <= 40, true);
    }

    private static boolean isOfRuleTwo(Class<?> type) {
        Class<?> single = type.isArray() ? type.getComponentType() : type;
        return single.isPrimitive() && single != float.class && single != double.class;
    }
}
