import java.lang.reflect.Constructor;
import java.lang.reflect.Field;
import java.lang.reflect.Method;
import java.lang.reflect.Modifier;
import java.util.Set;
import java.util.TreeSet;

// The class has the public face of the document, and nothing else that can be
// seen from outside (LANGUAGE.md, rules 1, 2 and 5).
public final class GrantLedgerFace {
    private static final Set<String> FACE = Set.of(
        "public int grant(int, int, int, boolean)",
        "public int revoke(int, int, int)",
        "public int expel(int)",
        "public int holds(int, int)",
        "public int may(int, int)",
        "public int received(int, int)",
        "public int given(int, int)",
        "public int stands(int)",
        "public int reach(int, int, int)",
        "public int standing()");

    private static int wrong = 0;

    private static void due(String what, Object got, Object want) {
        if (!got.equals(want)) {
            wrong++;
            System.out.println(what + ": " + got + ", due is " + want);
        }
    }

    public static void main(String[] args) {
        Class<?> type = GrantLedger.class;
        due("class", Modifier.toString(type.getModifiers()), "public final");
        due("package", type.getPackageName(), "");
        due("nested classes", type.getDeclaredClasses().length, 0);
        lookAtConstructors(type);
        lookAtMethods(type);
        lookAtFields(type);
        System.out.println(wrong == 0 ? "the face is as due" : wrong + " things are not as due");
        if (wrong != 0) {
            System.exit(1);
        }
    }

    private static void lookAtConstructors(Class<?> type) {
        Constructor<?>[] made = type.getDeclaredConstructors();
        due("constructors", made.length, 1);
        due("constructor", made[0].toString(), "public GrantLedger()");
    }

    private static void lookAtMethods(Class<?> type) {
        Set<String> seen = new TreeSet<>();
        Set<String> publicNames = new TreeSet<>();
        Set<String> privateNames = new TreeSet<>();
        for (Method method : type.getDeclaredMethods()) {
            if (Modifier.isPrivate(method.getModifiers())) {
                privateNames.add(method.getName());
            } else {
                publicNames.add(method.getName());
                seen.add(signatureOf(method));
            }
        }
        due("methods", seen, FACE);
        privateNames.retainAll(publicNames);
        due("private methods with a public name", privateNames, Set.of());
    }

    private static String signatureOf(Method method) {
        return method.toString().replace("GrantLedger.", "").replace(",", ", ");
    }

    private static void lookAtFields(Class<?> type) {
        for (Field field : type.getDeclaredFields()) {
            int modifiers = field.getModifiers();
            Class<?> held = field.getType();
            Class<?> plain = held.isArray() ? held.getComponentType() : held;
            due(field + " is private", Modifier.isPrivate(modifiers), true);
            due(field + " is of numbers", plain.isPrimitive() && plain != float.class && plain != double.class, true);
            if (Modifier.isStatic(modifiers)) {
                due(field + " is a constant", Modifier.isFinal(modifiers) && (held == int.class || held == long.class), true);
            }
        }
    }
}
