import java.lang.reflect.Constructor;
import java.lang.reflect.Field;
import java.lang.reflect.Method;
import java.lang.reflect.Modifier;
import java.util.Arrays;
import java.util.Map;
import java.util.Set;
import java.util.TreeMap;
import java.util.TreeSet;

/** The public face: every constant, constructor and method of the document, and nothing else. */
public final class FaceTest {
    private static final String[] METHODS = {
        "int extendType(int, int, int)", "int typeMember(int, int)", "boolean isSubtype(int, int)",
        "int variable(int)", "int object(int)", "boolean addMethod(int, int, int)", "int select(int, int)",
        "int update(int, int, int, int)", "int nodeParent(int)", "int check(int)", "int errorNode()",
        "int run(int, int)", "int resultBody(int)", "int resultType()", "int fuelUsed()", "int objectsCreated()"};

    public static void main(String[] args) throws ReflectiveOperationException {
        Class<?> c = ObjectCalculus.class;
        Due.is("class modifiers", c.getModifiers(), Modifier.PUBLIC | Modifier.FINAL);
        Due.is("superclass is Object", c.getSuperclass() == Object.class, true);
        Due.is("interfaces", c.getInterfaces().length, 0);
        Due.is("nested classes", c.getDeclaredClasses().length, 0);
        constants(c);
        methods(c);
        Constructor<?>[] made = c.getDeclaredConstructors();
        Due.is("constructors", made.length, 1);
        Due.is("the constructor is public", made[0].getModifiers(), Modifier.PUBLIC);
        Class<?>[] twoInts = {int.class, int.class};
        Due.is("it takes two ints", Arrays.equals(made[0].getParameterTypes(), twoInts), true);
        Due.end();
    }

    private static void constants(Class<?> c) throws ReflectiveOperationException {
        Map<String, Integer> want = wantedConstants();
        for (Field f : c.getDeclaredFields()) {
            if (Modifier.isPrivate(f.getModifiers())) {
                continue;
            }
            if (!want.containsKey(f.getName())) {
                Due.report("the field " + f + " is not of the document");
                continue;
            }
            Due.is(f.getName() + " is an int", f.getType() == int.class, true);
            Due.is(f.getName() + " modifiers", f.getModifiers(), Modifier.PUBLIC | Modifier.STATIC | Modifier.FINAL);
            Due.is(f.getName(), f.getInt(null), want.remove(f.getName()));
        }
        for (String missing : want.keySet()) {
            Due.report("the constant " + missing + " is missing");
        }
    }

    private static Map<String, Integer> wantedConstants() {
        Map<String, Integer> want = new TreeMap<>(Map.of("TOP", 0, "EMPTY", 1, "MAX_LABEL", 15, "MAX_VAR", 15,
            "MAX_MEMBERS", 8, "MAX_DEPTH", 48, "MAX_OBJECTS", 32, "MAX_FUEL", 128));
        String[] errors = {"BAD_ROOT", "UNBOUND", "NOT_OBJECT", "NO_LABEL", "LABELS", "RECEIVER", "BODY"};
        for (int i = 0; i < errors.length; i++) {
            want.put("CK_" + errors[i], -1 - i);
        }
        String[] outcomes = {
            "VALUE", "MNU", "BAD_UPDATE", "OUT_OF_FUEL", "TOO_DEEP", "OUT_OF_SPACE", "BAD_ROOT", "OPEN"};
        for (int i = 0; i < outcomes.length; i++) {
            want.put("RUN_" + outcomes[i], i);
        }
        return want;
    }

    private static void methods(Class<?> c) {
        Set<String> want = new TreeSet<>(Arrays.asList(METHODS));
        for (Method m : c.getDeclaredMethods()) {
            if (Modifier.isPrivate(m.getModifiers())) {
                continue;
            }
            String types = Arrays.toString(m.getParameterTypes()).replace("[", "(").replace("]", ")");
            String face = m.getReturnType() + " " + m.getName() + types;
            Due.is(face + " modifiers", m.getModifiers(), Modifier.PUBLIC);
            if (!want.remove(face)) {
                Due.report("the method " + face + " is not of the document");
            }
        }
        for (String missing : want) {
            Due.report("the method " + missing + " is missing");
        }
    }
}
