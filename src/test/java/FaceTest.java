import java.lang.reflect.Constructor;
import java.lang.reflect.Field;
import java.lang.reflect.Method;
import java.lang.reflect.Modifier;
import java.util.Arrays;
import java.util.HashSet;
import java.util.Set;
import java.util.TreeSet;

/** The public face is the document's, and no member beside it can be seen from outside. */
public final class FaceTest {
    private static int wrong = 0;

    private static void due(String what, Object got, Object want) {
        if (!got.equals(want)) {
            wrong++;
            System.out.println(what + " is " + got + ", due is " + want);
        }
    }

    public static void main(String[] args) {
        due("modifiers", Modifier.toString(RuleCascade.class.getModifiers()), "public final");
        due("constants", constants(), wanted("BAD_ARG", "FULL", "NONE"));
        due("BAD_ARG", RuleCascade.BAD_ARG, -1);
        due("FULL", RuleCascade.FULL, -2);
        due("NONE", RuleCascade.NONE, -4);
        due("constructors", constructors(), wanted("public RuleCascade()"));
        due("methods", methods(), wanted("rule 4", "drop 1", "swap 1", "push 1", "clear 0",
                "apply 0", "after 1", "letter 1", "sources 1", "source 2", "images 1",
                "commute 2", "idle 2", "still 1"));
        noPrivateNamesake();
        System.out.println(wrong == 0 ? "the face is as due" : wrong + " things are not as due");
        if (wrong != 0) {
            System.exit(1);
        }
    }

    private static Set<String> wanted(String... names) {
        return new TreeSet<>(Arrays.asList(names));
    }

    private static Set<String> constants() {
        Set<String> names = new TreeSet<>();
        for (Field field : RuleCascade.class.getDeclaredFields()) {
            if (!Modifier.isPrivate(field.getModifiers())) {
                names.add(field.getName());
                due(field.getName(), field.toString(),
                        "public static final int RuleCascade." + field.getName());
            }
        }
        return names;
    }

    private static Set<String> constructors() {
        Set<String> names = new TreeSet<>();
        for (Constructor<?> constructor : RuleCascade.class.getDeclaredConstructors()) {
            names.add(constructor.toString());
        }
        return names;
    }

    private static Set<String> methods() {
        Set<String> names = new TreeSet<>();
        for (Method method : RuleCascade.class.getDeclaredMethods()) {
            if (!Modifier.isPrivate(method.getModifiers())) {
                names.add(method.getName() + " " + method.getParameterCount());
                due(method.getName(), Modifier.toString(method.getModifiers()), "public");
                due(method.getName(), method.getReturnType().toString(), "int");
                for (Class<?> type : method.getParameterTypes()) {
                    due(method.getName(), type.toString(), "int");
                }
            }
        }
        return names;
    }

    private static void noPrivateNamesake() {
        Set<String> open = new HashSet<>();
        for (Method method : RuleCascade.class.getMethods()) {
            open.add(method.getName());
        }
        for (Method method : RuleCascade.class.getDeclaredMethods()) {
            if (Modifier.isPrivate(method.getModifiers())) {
                due("a public namesake of " + method.getName(),
                        open.contains(method.getName()), false);
            }
        }
    }
}
