import java.lang.reflect.Constructor;
import java.lang.reflect.Field;
import java.lang.reflect.Method;
import java.lang.reflect.Modifier;
import java.util.Arrays;
import java.util.Set;
import java.util.TreeSet;

/** The class has the document's face and nothing more (LANGUAGE.md, rules 1 and 5). */
public final class FaceTest {
    private static final Set<String> DUE = new TreeSet<>(Arrays.asList(
            "int gate(int) IllegalArgumentException",
            "int feed(int,int,boolean) IndexOutOfBoundsException,IllegalStateException",
            "int output(int) IndexOutOfBoundsException",
            "int clear() ",
            "int explore() ",
            "int distance(int) IllegalStateException,IndexOutOfBoundsException",
            "int way(int,int) IllegalStateException,IndexOutOfBoundsException",
            "int many(int) IllegalStateException",
            "int next(int,int) IllegalStateException,IndexOutOfBoundsException",
            "int doubt(int) IllegalStateException,IndexOutOfBoundsException",
            "int always(int) IllegalStateException,IndexOutOfBoundsException",
            "boolean isSame(int,int) IllegalStateException,IndexOutOfBoundsException",
            "int group(int) IllegalStateException,IndexOutOfBoundsException",
            "int count(int) "));

    public static void main(String[] args) {
        int modifiers = StateExplorer.class.getModifiers();
        Checks.same("public final", modifiers & (Modifier.PUBLIC | Modifier.FINAL),
                Modifier.PUBLIC | Modifier.FINAL);
        Checks.same("NONE", StateExplorer.NONE, -1);
        checkMethods();
        checkFields(StateExplorer.class);
        Constructor<?>[] constructors = StateExplorer.class.getDeclaredConstructors();
        Checks.same("constructors", constructors.length, 1);
        Checks.same("its parameters", constructors[0].getParameterCount(), 0);
        Checks.same("is public", constructors[0].getModifiers(), Modifier.PUBLIC);
        for (Class<?> inside : StateExplorer.class.getDeclaredClasses()) {
            Checks.same(inside + " is static", inside.getModifiers() & Modifier.STATIC, Modifier.STATIC);
            checkFields(inside);
            checkNames(inside);
        }
        Checks.finish();
    }

    private static void checkMethods() {
        Set<String> found = new TreeSet<>();
        for (Method method : StateExplorer.class.getDeclaredMethods()) {
            if (Modifier.isPrivate(method.getModifiers())) {
                continue;
            }
            Checks.same(method.getName() + " is public only", method.getModifiers(), Modifier.PUBLIC);
            found.add(method.getReturnType() + " " + method.getName()
                    + "(" + namesOf(method.getParameterTypes()) + ") " + namesOf(method.getExceptionTypes()));
        }
        Checks.same("the public methods", found.toString(), DUE.toString());
        checkNames(StateExplorer.class);
    }

    private static void checkNames(Class<?> where) {
        for (Method method : where.getDeclaredMethods()) {
            boolean isFace = where == StateExplorer.class && Modifier.isPublic(method.getModifiers());
            if (!isFace && DUE.stream().anyMatch(due -> due.contains(" " + method.getName() + "("))) {
                Checks.fail(where + " has a method with a public one's name: " + method);
            }
        }
    }

    private static void checkFields(Class<?> where) {
        for (Field field : where.getDeclaredFields()) {
            boolean isNone = where == StateExplorer.class && field.getName().equals("NONE");
            if (where == StateExplorer.class && Modifier.isPrivate(field.getModifiers()) == isNone) {
                Checks.fail("a field that is not private: " + field);
            }
            if (Modifier.isStatic(field.getModifiers()) && !Modifier.isFinal(field.getModifiers())) {
                Checks.fail("a static field that is not final: " + field);
            }
        }
    }

    private static String namesOf(Class<?>[] types) {
        StringBuilder names = new StringBuilder();
        for (Class<?> type : types) {
            names.append(names.length() == 0 ? "" : ",").append(type.getSimpleName());
        }
        return names.toString();
    }
}
