import java.lang.reflect.Constructor;
import java.lang.reflect.Field;
import java.lang.reflect.Method;
import java.lang.reflect.Modifier;
import java.util.Arrays;
import java.util.TreeSet;

/** The public face: every constant, constructor and method of the document, and no other. */
public final class FaceTest {
    private static final String[] METHODS = {
        "int feed(int,int,int,int,int)", "int end(int)", "int plan()", "int fault(int)",
        "boolean begin(int)", "int lead(int)", "boolean forget(int)", "int dark(int)",
        "int man(int,int)", "int states(int)", "int right()", "int shown(int)", "int shows(int)",
        "int soonest()", "int ends()", "int endless()", "int idle()", "int most(int)",
        "int bears(int)", "long said(int,int,int,int)", "long all(int,int,int)",
        "int guess(int,int)", "long mean(int,int)", "int counter(int,int,int,int)", "int fair()",
        "int log(int,int)", "boolean untell(int)", "int later(int)", "int logged(int,int)",
        "int last(int,int)", "int agrees(int,int)", "int image(int)", "int back(int)",
        "int about(int)",
    };

    public static void main(String[] args) {
        Check check = new Check();
        TreeSet<String> wanted = new TreeSet<>(Arrays.asList(METHODS));
        TreeSet<String> found = new TreeSet<>();
        TreeSet<String> privateNames = new TreeSet<>();
        for (Method method : LampYard.class.getDeclaredMethods()) {
            if (Modifier.isPrivate(method.getModifiers())) {
                privateNames.add(method.getName());
            } else {
                found.add(told(method));
            }
        }
        check.same("methods", found.toString(), wanted.toString());
        for (String method : METHODS) {
            String name = method.substring(method.indexOf(' ') + 1, method.indexOf('('));
            check.yes("no private " + name, !privateNames.contains(name));
        }
        for (Field field : LampYard.class.getDeclaredFields()) {
            boolean isNone = field.getName().equals("NONE");
            check.yes("field " + field.getName(), isNone == !Modifier.isPrivate(field.getModifiers()));
            check.yes("static is final " + field.getName(),
                    !Modifier.isStatic(field.getModifiers()) || Modifier.isFinal(field.getModifiers()));
        }
        Constructor<?>[] made = LampYard.class.getDeclaredConstructors();
        check.same("constructors", made.length, 1);
        check.yes("constructor is public", Modifier.isPublic(made[0].getModifiers()));
        check.yes("class is public and final", Modifier.isPublic(LampYard.class.getModifiers())
                && Modifier.isFinal(LampYard.class.getModifiers()));
        check.same("NONE", LampYard.NONE, -1);
        check.close("FaceTest");
    }

    private static String told(Method method) {
        StringBuilder parameters = new StringBuilder();
        for (Class<?> type : method.getParameterTypes()) {
            parameters.append(parameters.length() == 0 ? "" : ",").append(type.getName());
        }
        return method.getReturnType().getName() + " " + method.getName() + "(" + parameters + ")";
    }
}
