import java.lang.reflect.Constructor;
import java.lang.reflect.Method;
import java.lang.reflect.Modifier;
import java.util.Set;
import java.util.TreeSet;

/** "The public face": the class, its constructor and its methods, and nothing else that is public. */
final class FaceTest {
    private static final Checks CHECKS = new Checks("FaceTest");
    private static final Set<String> METHODS = Set.of("boolean write(long)", "int model()", "int formula()",
            "int place()", "boolean verify()", "int stem()", "int cycle()", "int lasso(int,int)", "void walk()",
            "int steps()", "int go(int)", "int value(int)", "int message(int,int)", "int point(int)", "int holder()",
            "boolean truth(int)", "int count(int)");

    public static void main(String[] args) {
        Class<?> face = LassoFinder.class;
        CHECKS.same("public", Modifier.isPublic(face.getModifiers()), true);
        CHECKS.same("final", Modifier.isFinal(face.getModifiers()), true);
        CHECKS.same("public fields", face.getFields().length, 0);
        Constructor<?>[] constructors = face.getConstructors();
        CHECKS.same("public constructors", constructors.length, 1);
        CHECKS.same("its parameters", constructors[0].getParameterCount(), 0);
        Set<String> found = new TreeSet<>();
        for (Method method : face.getDeclaredMethods()) {
            if (!Modifier.isPrivate(method.getModifiers())) {
                found.add(written(method));
                CHECKS.same("public: " + method, Modifier.isPublic(method.getModifiers()), true);
            }
        }
        CHECKS.same("methods", found.toString(), new TreeSet<>(METHODS).toString());
        CHECKS.end();
    }

    private static String written(Method method) {
        StringBuilder out = new StringBuilder();
        out.append(method.getReturnType()).append(' ').append(method.getName()).append('(');
        for (Class<?> parameter : method.getParameterTypes()) {
            out.append(out.charAt(out.length() - 1) == '(' ? "" : ",").append(parameter);
        }
        return out.append(')').toString();
    }
}
