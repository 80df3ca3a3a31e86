import java.lang.reflect.Constructor;
import java.lang.reflect.Field;
import java.lang.reflect.Method;
import java.lang.reflect.Modifier;
import java.util.Set;
import java.util.TreeSet;

/** The class shows the document's face and nothing else. */
public final class FaceTest {
    private static final String[] METHODS = {
        "int write(long,int)", "int erase()", "int fault()", "int land()", "int train(int,int)",
        "int runs(int,int)", "int as(int,int)", "int ride(int)", "int send(int,int)", "int noon()",
        "int he(int)", "int seeker(int)", "int may()", "int way()", "int next()", "int letter()",
        "int shut(int)", "int hides(int)", "int chase()", "int closed(int)", "int log(int)", "int burn()",
        "int judge()", "long late(int,int,int)", "int keep(int)", "int back(int)", "int count(int)"};
    private static final String[] CONSTANTS = {"NONE", "UNKNOWN", "OUTSIDE", "NOT", "FULL"};

    public static void main(String[] args) throws IllegalAccessException {
        Check check = new Check("FaceTest");
        Class<?> face = NoonTrains.class;
        check.holds("public and final", Modifier.isPublic(face.getModifiers()) && Modifier.isFinal(face.getModifiers()));
        Set<String> methods = new TreeSet<>();
        for (Method method : face.getDeclaredMethods()) {
            if (!Modifier.isPrivate(method.getModifiers())) {
                methods.add(described(method));
                check.holds(method.getName() + " is public, not static",
                        Modifier.isPublic(method.getModifiers()) && !Modifier.isStatic(method.getModifiers()));
            }
        }
        check.holds("methods " + methods, methods.equals(new TreeSet<>(Set.of(METHODS))));
        Set<String> constants = new TreeSet<>();
        for (Field field : face.getDeclaredFields()) {
            if (!Modifier.isPrivate(field.getModifiers())) {
                constants.add(field.getName());
                int wanted = Modifier.PUBLIC | Modifier.STATIC | Modifier.FINAL;
                check.holds(field.getName() + " is a constant", field.getModifiers() == wanted);
            }
        }
        check.holds("constants " + constants, constants.equals(new TreeSet<>(Set.of(CONSTANTS))));
        for (int i = 0; i < CONSTANTS.length; i++) {
            int value = -1 - i;
            for (Field field : face.getDeclaredFields()) {
                if (field.getName().equals(CONSTANTS[i])) {
                    check.due(CONSTANTS[i], field.getInt(null), value);
                }
            }
        }
        Constructor<?>[] made = face.getDeclaredConstructors();
        check.holds("one constructor without arguments", made.length == 1 && made[0].getParameterCount() == 0
                && Modifier.isPublic(made[0].getModifiers()));
        for (Class<?> inside : face.getDeclaredClasses()) {
            int how = inside.getModifiers();
            check.holds(inside.getName() + " is static and not public",
                    Modifier.isStatic(how) && !Modifier.isPublic(how) && !Modifier.isProtected(how));
        }
        check.end();
    }

    private static String described(Method method) {
        StringBuilder text = new StringBuilder();
        for (Class<?> parameter : method.getParameterTypes()) {
            text.append(text.length() == 0 ? "" : ",").append(parameter.getName());
        }
        return method.getReturnType().getName() + " " + method.getName() + "(" + text + ")";
    }
}
