import java.lang.reflect.Constructor;
import java.lang.reflect.Field;
import java.lang.reflect.Method;
import java.lang.reflect.Modifier;
import java.util.Arrays;
import java.util.Set;
import java.util.TreeSet;

/** The class has the document's face, no other visible member, and no state that objects share. */
public final class FaceTest {
    private static final Set<String> METHODS = new TreeSet<>(Arrays.asList(
            "int feed(int,int,int,int,int)", "boolean end(int)", "int fault(int)", "boolean take(int)",
            "boolean differ(int,int,boolean)", "int nodes()", "int node(int,int)", "boolean alike(int,int)",
            "int matches()", "int match(int)", "int hole(int,int)", "int row(int,int)", "int taken(int)",
            "int takes(int,int)", "int put(int)", "int putAll(int)", "boolean back()", "int at(int)",
            "int count(int)"));

    public static void main(String[] args) throws Exception {
        Check check = new Check();
        Class<?> face = ShapeTool.class;
        check.same("the class is public and final", Modifier.PUBLIC | Modifier.FINAL, face.getModifiers());
        check.same("the visible methods", METHODS, visibleMethods(face, check));
        check.same("the constructors", 1, face.getDeclaredConstructors().length);
        Constructor<?> made = face.getDeclaredConstructors()[0];
        check.same("the constructor is public", Modifier.PUBLIC, made.getModifiers());
        check.same("the constructor takes nothing", 0, made.getParameterCount());
        checkFields(face, check);
        check.same("NONE", -1, ShapeTool.NONE);
        check.same("what at throws", "[class java.util.NoSuchElementException]",
                Arrays.toString(face.getMethod("at", int.class).getExceptionTypes()));
        for (Class<?> inner : face.getDeclaredClasses()) {
            check.same(inner.getName() + " is static", true, Modifier.isStatic(inner.getModifiers()));
            for (Field field : inner.getDeclaredFields()) {
                checkStatic(field, check);
            }
        }
        check.finish();
    }

    private static Set<String> visibleMethods(Class<?> face, Check check) {
        Set<String> found = new TreeSet<>();
        Set<String> hidden = new TreeSet<>();
        Set<String> names = new TreeSet<>();
        for (Method method : face.getDeclaredMethods()) {
            if (Modifier.isPrivate(method.getModifiers())) {
                hidden.add(method.getName());
                continue;
            }
            names.add(method.getName());
            check.same(method.getName() + " is public and no more", Modifier.PUBLIC, method.getModifiers());
            StringBuilder types = new StringBuilder();
            for (Class<?> type : method.getParameterTypes()) {
                types.append(types.length() == 0 ? "" : ",").append(type.getName());
            }
            found.add(method.getReturnType().getName() + " " + method.getName() + "(" + types + ")");
        }
        hidden.retainAll(names);
        check.same("private methods with a public one's name", new TreeSet<String>(), hidden);
        return found;
    }

    private static void checkFields(Class<?> face, Check check) {
        for (Field field : face.getDeclaredFields()) {
            boolean isPrivate = Modifier.isPrivate(field.getModifiers());
            check.same(field.getName() + " is private, or NONE", true, isPrivate || field.getName().equals("NONE"));
            checkStatic(field, check);
        }
    }

    private static void checkStatic(Field field, Check check) {
        int modifiers = field.getModifiers();
        if (Modifier.isStatic(modifiers)) {
            check.same(field.getName() + " is final and an int", true,
                    Modifier.isFinal(modifiers) && field.getType() == int.class);
        }
    }
}
