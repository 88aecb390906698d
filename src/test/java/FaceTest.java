import java.lang.reflect.Constructor;
import java.lang.reflect.Field;
import java.lang.reflect.Method;
import java.lang.reflect.Modifier;
import java.util.HashSet;
import java.util.Set;
import java.util.TreeSet;

/** The class has the document's face, and no other member of it can be seen. */
public final class FaceTest {
    private static final Set<String> METHODS = Set.of(
            "boolean input(int, int, int)", "boolean output(int, int)", "int transaction()", "boolean parent(int)",
            "boolean include(int)", "int make(int, int)", "void clear()", "int template(int, int)", "int receive(int)",
            "int submit(int)", "int block(int, int)", "int order(int)", "int unspent(int, int)", "int pool(int)",
            "int wanted(int)", "int parentOf(int, int)", "int count(int)", "int total()");

    public static void main(String[] args) {
        Check check = new Check();
        check.part("the face");
        Class<?> face = BlockMesh.class;
        check.due("the class is public and final", face.getModifiers(), Modifier.PUBLIC | Modifier.FINAL);
        checkMethods(check, face);
        checkConstructors(check, face);
        for (Field field : face.getDeclaredFields()) {
            check.due("private " + field.getName(), Modifier.isPrivate(field.getModifiers()), true);
            if (Modifier.isStatic(field.getModifiers())) {
                check.due("final " + field.getName(), Modifier.isFinal(field.getModifiers()), true);
            }
        }
        for (Class<?> inside : face.getDeclaredClasses()) {
            int seen = inside.getModifiers() & (Modifier.PUBLIC | Modifier.PROTECTED);
            check.due("hidden " + inside.getSimpleName(), seen, 0);
            check.due("static " + inside.getSimpleName(), Modifier.isStatic(inside.getModifiers()), true);
        }
        check.end();
    }

    private static void checkMethods(Check check, Class<?> face) {
        Set<String> visible = new TreeSet<>();
        Set<String> visibleNames = new HashSet<>();
        Set<String> privateNames = new TreeSet<>();
        for (Method method : face.getDeclaredMethods()) {
            if (Modifier.isPrivate(method.getModifiers())) {
                privateNames.add(method.getName());
                continue;
            }
            visibleNames.add(method.getName());
            visible.add(told(method));
            check.due("public " + told(method), method.getModifiers(), Modifier.PUBLIC);
        }
        for (String want : METHODS) {
            check.due("there is " + want, visible.contains(want), true);
        }
        check.due("visible methods", visible.size(), METHODS.size());
        for (String name : privateNames) {
            check.due("a private method bears the public name " + name, visibleNames.contains(name), false);
        }
    }

    private static void checkConstructors(Check check, Class<?> face) {
        Constructor<?>[] constructors = face.getDeclaredConstructors();
        check.due("constructors", constructors.length, 1);
        check.due("public constructor", constructors[0].getModifiers(), Modifier.PUBLIC);
        Class<?>[] taken = constructors[0].getParameterTypes();
        check.due("the constructor takes one int", taken.length == 1 && taken[0] == int.class, true);
    }

    private static String told(Method method) {
        StringBuilder text = new StringBuilder(method.getReturnType().getName() + " " + method.getName() + "(");
        for (Class<?> type : method.getParameterTypes()) {
            text.append(text.charAt(text.length() - 1) == '(' ? "" : ", ").append(type.getName());
        }
        return text.append(")").toString();
    }
}
