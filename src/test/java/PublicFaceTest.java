import java.lang.reflect.Constructor;
import java.lang.reflect.Field;
import java.lang.reflect.Member;
import java.lang.reflect.Method;
import java.lang.reflect.Modifier;
import java.util.Arrays;
import java.util.Map;
import java.util.TreeMap;
import java.util.TreeSet;

/** The constants and signatures of the document, and nothing else that is visible. */
public final class PublicFaceTest {
    public static void main(String[] args) throws IllegalAccessException {
        constantsHaveTheirValues();
        onlyTheFaceIsVisible();
        staticFieldsAreNumbers();
        Checks.finish();
    }

    private static Map<String, Integer> dueConstants() {
        Map<String, Integer> due = new TreeMap<>();
        due.put("SOFT", 0);
        due.put("HARD", 1);
        due.put("CORE", 2);
        due.put("MAXIMAL", 3);
        due.put("DONE", 0);
        due.put("OPEN", 0);
        due.put("KNOWN_SAT", 1);
        due.put("KNOWN_UNSAT", 2);
        due.put("FULL", -11);
        due.put("BAD_KIND", -12);
        due.put("BAD_LITERAL", -13);
        due.put("BAD_SLOT", -14);
        due.put("BAD_POSITION", -15);
        due.put("SAME", -16);
        due.put("NOT_READY", -17);
        due.put("BAD_MASK", -18);
        due.put("NONE", -19);
        return due;
    }

    private static void constantsHaveTheirValues() throws IllegalAccessException {
        Map<String, Integer> got = new TreeMap<>();
        for (Field field : CoreEnumerator.class.getDeclaredFields()) {
            if (!Modifier.isPrivate(field.getModifiers())) {
                got.put(field.getName(), field.getInt(null));
            }
        }
        Checks.dueEqual("the visible fields", got, dueConstants());
    }

    private static void onlyTheFaceIsVisible() {
        TreeSet<String> got = new TreeSet<>();
        for (Method method : CoreEnumerator.class.getDeclaredMethods()) {
            if (!Modifier.isPrivate(method.getModifiers())) {
                got.add(describe(method, method.getParameterTypes()) + " " + method.getReturnType());
            }
        }
        for (Constructor<?> made : CoreEnumerator.class.getDeclaredConstructors()) {
            got.add(describe(made, made.getParameterTypes()));
        }
        TreeSet<String> due = new TreeSet<>(Arrays.asList(
                "public CoreEnumerator[int, int]",
                "public variables[] int",
                "public capacity[] int",
                "public addClause[int, int, int, int] int",
                "public removeClause[int] int",
                "public setKind[int, int] int",
                "public literal[int, int] int",
                "public slots[int] int",
                "public witness[int] int",
                "public enumerate[] int",
                "public count[int] int",
                "public emit[int] int",
                "public emitted[int] int",
                "public verdict[int] int",
                "public greatestOpen[] int"));
        Checks.dueEqual("the visible methods", got, due);
        Checks.dueEqual("the class", Modifier.toString(CoreEnumerator.class.getModifiers()), "public final");
        Checks.due("the nested classes", CoreEnumerator.class.getDeclaredClasses().length, 0);
    }

    private static void staticFieldsAreNumbers() {
        for (Field field : CoreEnumerator.class.getDeclaredFields()) {
            boolean number = field.getType() == int.class || field.getType() == long.class;
            if (Modifier.isStatic(field.getModifiers()) && !(number && Modifier.isFinal(field.getModifiers()))) {
                Checks.report("static field " + field.getName() + " is not a constant of int or long");
            }
        }
    }

    private static String describe(Member member, Class<?>[] parameters) {
        return Modifier.toString(member.getModifiers()) + " " + member.getName() + Arrays.toString(parameters);
    }
}
