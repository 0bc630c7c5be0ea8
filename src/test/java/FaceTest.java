import java.lang.reflect.Constructor;
import java.lang.reflect.Field;
import java.lang.reflect.Method;
import java.lang.reflect.Modifier;
import java.util.Arrays;
import java.util.Set;
import java.util.TreeSet;

/** The members that a user can see are those of the document's public face, and no other. */
public final class FaceTest {
    private static final Set<String> METHODS = new TreeSet<>(Arrays.asList(
        "define/2", "require/4", "retract/1", "assume/2", "size/0", "table/1", "traits/1", "netTraits/0",
        "satisfiable/0", "solutions/0", "least/0", "greatest/0", "next/1", "possible/2", "alwaysOne/0",
        "alwaysZero/0", "pairs/2", "entails/4", "redundant/1"));

    private static final String[] CONSTANTS = {
        "HAS_ZERO", "HAS_ONE", "MEET_CLOSED", "JOIN_CLOSED", "MAJORITY_CLOSED", "PARITY_CLOSED", "FLIP_CLOSED", "FREE"};
    private static final int[] VALUES = {1, 2, 4, 8, 16, 32, 64, 2};

    private static final Checks checks = new Checks();

    public static void main(String[] args) throws IllegalAccessException {
        theClass();
        theConstructor();
        theMethods();
        theFields();
        theConstants();
        checks.end();
    }

    private static void theClass() {
        int modifiers = RelationNet.class.getModifiers();
        checks.holds("the class is public and final", Modifier.isPublic(modifiers) && Modifier.isFinal(modifiers));
        checks.due("nested classes", RelationNet.class.getDeclaredClasses().length, 0);
        checks.holds("the class extends Object", RelationNet.class.getSuperclass() == Object.class);
        checks.due("interfaces", RelationNet.class.getInterfaces().length, 0);
    }

    private static void theConstructor() {
        Constructor<?>[] all = RelationNet.class.getDeclaredConstructors();
        checks.due("constructors", all.length, 1);
        checks.holds("the constructor is public", Modifier.isPublic(all[0].getModifiers()));
        checks.holds("the constructor takes one int", Arrays.equals(all[0].getParameterTypes(), new Class<?>[] {int.class}));
    }

    private static void theMethods() {
        Set<String> seen = new TreeSet<>();
        Set<String> names = new TreeSet<>();
        for (String method : METHODS) {
            names.add(method.substring(0, method.indexOf('/')));
        }
        for (Method method : RelationNet.class.getDeclaredMethods()) {
            if (Modifier.isPrivate(method.getModifiers())) {
                checks.holds("private " + method.getName() + " bears no public name", !names.contains(method.getName()));
                continue;
            }
            seen.add(method.getName() + "/" + method.getParameterCount());
            checks.holds(method + " is public and not static",
                Modifier.isPublic(method.getModifiers()) && !Modifier.isStatic(method.getModifiers()));
            checks.holds(method + " answers an int", method.getReturnType() == int.class);
            for (Class<?> type : method.getParameterTypes()) {
                checks.holds(method + " takes ints alone", type == int.class);
            }
        }
        checks.holds("the public methods are " + METHODS + ", not " + seen, seen.equals(METHODS));
    }

    private static void theFields() {
        for (Field field : RelationNet.class.getDeclaredFields()) {
            int modifiers = field.getModifiers();
            boolean named = Arrays.asList(CONSTANTS).contains(field.getName());
            checks.holds(field + " is private unless the document names it", Modifier.isPrivate(modifiers) != named);
            if (Modifier.isStatic(modifiers)) {
                checks.holds(field + " is a constant number",
                    Modifier.isFinal(modifiers) && (field.getType() == int.class || field.getType() == long.class));
            }
        }
    }

    private static void theConstants() throws IllegalAccessException {
        for (int k = 0; k < CONSTANTS.length; k++) {
            Field field = fieldNamed(CONSTANTS[k]);
            checks.holds(CONSTANTS[k] + " is there", field != null);
            if (field != null) {
                int modifiers = field.getModifiers();
                checks.holds(CONSTANTS[k] + " is a public static final int", Modifier.isPublic(modifiers)
                    && Modifier.isStatic(modifiers) && Modifier.isFinal(modifiers) && field.getType() == int.class);
                checks.due(CONSTANTS[k], field.getInt(null), VALUES[k]);
            }
        }
    }

    private static Field fieldNamed(String name) {
        for (Field field : RelationNet.class.getDeclaredFields()) {
            if (field.getName().equals(name)) {
                return field;
            }
        }
        return null;
    }
}
