import java.lang.reflect.Constructor;
import java.lang.reflect.Field;
import java.lang.reflect.Method;
import java.lang.reflect.Modifier;
import java.util.ArrayList;
import java.util.Arrays;
import java.util.List;

/** The class's face, as the document writes it, and no member beside it that others could see. */
public final class FaceTest {
    private static final Checks CHECKS = new Checks();
    private static final String[] METHODS = {
        "int prime(int)", "int degree(int)", "int rest(int, int)", "int meeting(int, int)",
        "int sum(int, int, int)", "int unit(int, int, int)", "int join(int, int, int, int)",
        "int turn(int, int, int)", "int at(int, int)", "int same(int, int)", "long size(int)",
        "int solutions(int, int, int)", "long rows(int)", "int over(int, int, int)", "int peak(int, int)",
        "int even(int)", "int classes(int)", "int count(int)"
    };
    private static final String[] CONSTANTS = {"NONE", "UNKNOWN", "OUTSIDE", "NOT", "GREAT"};

    public static void main(String[] args) throws Exception {
        face();
        constants();
        CHECKS.end("FaceTest");
    }

    private static void face() {
        Class<?> face = TurningSums.class;
        CHECKS.due("the class is public and final", face.getModifiers(), Modifier.PUBLIC | Modifier.FINAL);
        CHECKS.due("it has no package", face.getPackageName().length(), 0);
        List<String> open = new ArrayList<>();
        List<String> hidden = new ArrayList<>();
        for (Method m : face.getDeclaredMethods()) {
            if (Modifier.isPrivate(m.getModifiers())) {
                hidden.add(m.getName());
                CHECKS.due(m.getName() + " is no lambda", m.getName().startsWith("lambda$") ? 1 : 0, 0);
                continue;
            }
            open.add(told(m));
            CHECKS.due(m.getName() + " is public and no more", m.getModifiers(), Modifier.PUBLIC);
        }
        for (String wanted : METHODS) {
            CHECKS.due("has " + wanted, open.contains(wanted) ? 1 : 0, 1);
            String name = wanted.substring(wanted.indexOf(' ') + 1, wanted.indexOf('('));
            CHECKS.due("a hidden method named " + name, hidden.contains(name) ? 1 : 0, 0);
        }
        CHECKS.due("methods of the face", open.size(), METHODS.length);
        Constructor<?>[] makers = face.getDeclaredConstructors();
        CHECKS.due("constructors", makers.length, 1);
        CHECKS.due("constructor's parameters", makers[0].getParameterCount(), 0);
        CHECKS.due("constructor is public", makers[0].getModifiers(), Modifier.PUBLIC);
    }

    private static String told(Method m) {
        String parameters = Arrays.toString(m.getParameterTypes());
        return m.getReturnType() + " " + m.getName() + "(" + parameters.substring(1, parameters.length() - 1) + ")";
    }

    private static void constants() throws Exception {
        int fields = 0;
        for (Field f : TurningSums.class.getDeclaredFields()) {
            int how = f.getModifiers();
            if (Modifier.isStatic(how)) {
                CHECKS.due(f.getName() + " is final", Modifier.isFinal(how) ? 1 : 0, 1);
            } else {
                fields++;
            }
            if (!Modifier.isPrivate(how)) {
                CHECKS.due(f.getName() + " is of the face", Arrays.asList(CONSTANTS).contains(f.getName()) ? 1 : 0, 1);
            }
        }
        CHECKS.due("no more than twenty fields", fields > 20 ? 1 : 0, 0);
        for (int i = 0; i < CONSTANTS.length; i++) {
            Field f = TurningSums.class.getField(CONSTANTS[i]);
            CHECKS.due(CONSTANTS[i], f.getInt(null), -1 - i);
            CHECKS.due(CONSTANTS[i] + " is int", f.getType() == int.class ? 1 : 0, 1);
        }
    }
}
