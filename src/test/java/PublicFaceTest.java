import java.lang.reflect.Constructor;
import java.lang.reflect.Field;
import java.lang.reflect.Method;
import java.lang.reflect.Modifier;
import java.util.Arrays;
import java.util.TreeSet;

/** The document's face: its constants, constructor and methods, and nothing else that is seen. */
public final class PublicFaceTest {
    private static final String[] METHODS = {
        "int reset(int, int, int)", "int type(char)", "int clearText()", "int readInput(int)",
        "int readLie(int, int)", "int setFaulty(int, int, int, int)", "int setCorrect(int)",
        "int setLink(int, int, int)", "int setRule(int)", "int count(int)", "int strategy(int)",
        "int run(int)", "int runTo(int, int, int)", "int back(int)",
        "long value(int, int, boolean, boolean)", "long input(int, boolean, boolean)",
        "long received(int, int, boolean, boolean)", "long rest(int, int, boolean, boolean)",
        "int mostFrequent(int)", "long width(int, boolean)", "long rate(int, boolean)",
        "long guarantee(boolean)", "long hull(boolean, boolean)", "int outside()",
        "int roundsTo(int, int, int)", "int worstStrategy(int, int)", "int bestRule(int)",
    };

    public static void main(String[] args) {
        Check c = new Check("PublicFaceTest");
        constants(c);
        fields(c);
        methods(c);
        c.finish();
    }

    private static void constants(Check c) {
        c.same("UNKNOWN", IntervalAgreement.UNKNOWN, -1001);
        c.same("BAD_VALUE", IntervalAgreement.BAD_VALUE, -1002);
        c.same("NOT_NOW", IntervalAgreement.NOT_NOW, -1003);
        c.same("FULL", IntervalAgreement.FULL, -1004);
        c.same("NONE", IntervalAgreement.NONE, -1005);
        c.same("NO_VALUE", IntervalAgreement.NO_VALUE, Long.MIN_VALUE);
        int modifiers = IntervalAgreement.class.getModifiers();
        c.holds("public and final", Modifier.isPublic(modifiers) && Modifier.isFinal(modifiers));
        Constructor<?>[] constructors = IntervalAgreement.class.getDeclaredConstructors();
        c.same("constructors", constructors.length, 1);
        c.same("parameters of the constructor", constructors[0].getParameterCount(), 0);
        c.holds("public constructor", Modifier.isPublic(constructors[0].getModifiers()));
    }

    private static void fields(Check c) {
        TreeSet<String> visible = new TreeSet<>();
        for (Field field : IntervalAgreement.class.getDeclaredFields()) {
            if (!Modifier.isPrivate(field.getModifiers())) {
                visible.add(field.getName());
                c.same("modifiers of " + field.getName(), field.getModifiers(),
                        Modifier.PUBLIC | Modifier.STATIC | Modifier.FINAL);
            }
        }
        c.holds("visible fields are " + visible, visible.equals(new TreeSet<>(Arrays.asList(
                "UNKNOWN", "BAD_VALUE", "NOT_NOW", "FULL", "NONE", "NO_VALUE"))));
    }

    private static void methods(Check c) {
        TreeSet<String> due = new TreeSet<>(Arrays.asList(METHODS));
        TreeSet<String> visible = new TreeSet<>();
        TreeSet<String> visibleNames = new TreeSet<>();
        for (Method method : IntervalAgreement.class.getDeclaredMethods()) {
            if (!Modifier.isPrivate(method.getModifiers()) && !method.isSynthetic()) {
                visible.add(signature(method));
                visibleNames.add(method.getName());
                c.same("modifiers of " + method, method.getModifiers(), Modifier.PUBLIC);
            }
        }
        c.holds("visible methods are " + visible, visible.equals(due));
        for (Method method : IntervalAgreement.class.getDeclaredMethods()) {
            if (Modifier.isPrivate(method.getModifiers())) {
                c.holds("a name of its own: " + method, !visibleNames.contains(method.getName()));
            }
        }
    }

    private static String signature(Method method) {
        StringBuilder text = new StringBuilder();
        for (Class<?> parameter : method.getParameterTypes()) {
            text.append(text.length() == 0 ? "" : ", ").append(parameter.getName());
        }
        return method.getReturnType().getName() + " " + method.getName() + "(" + text + ")";
    }
}
