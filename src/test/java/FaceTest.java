import java.lang.reflect.Constructor;
import java.lang.reflect.Field;
import java.lang.reflect.Member;
import java.lang.reflect.Method;
import java.lang.reflect.Modifier;
import java.util.Arrays;
import java.util.Set;
import java.util.TreeSet;

/** The public face of the document, and what LANGUAGE.md asks of the members beside it. */
public final class FaceTest {
    private static final Set<String> FACE = new TreeSet<>(Set.of(
            "int BAD_ARG", "int FULL", "int NONE", "CoxeterWords()",
            "int push(int,int)", "int pop(int)", "int clear(int)", "int shorten(int)",
            "int turn(int)", "int size(int)", "int letter(int,int)", "int length(int)",
            "boolean equal(int,int)", "int endings(int)", "int beginnings(int)",
            "int letters(int)", "int shortWords(int)", "boolean lies(int,int)",
            "int between(int,int)", "int order(int)", "boolean alike(int,int)"));

    private static final Set<String> seen = new TreeSet<>();

    public static void main(String[] args) {
        Class<?> type = CoxeterWords.class;
        Check.due("public final class", type.getModifiers(), Modifier.PUBLIC | Modifier.FINAL);
        Check.due("nested classes", type.getDeclaredClasses().length, 0);
        Check.due("parent", type.getSuperclass().getName(), "java.lang.Object");
        Check.due("interfaces", type.getInterfaces().length, 0);
        for (Field field : type.getDeclaredFields()) {
            see(field, name(field.getType()) + " " + field.getName());
            fieldTypes(field);
        }
        for (Constructor<?> made : type.getDeclaredConstructors()) {
            see(made, "CoxeterWords(" + names(made.getParameterTypes()) + ")");
        }
        Set<String> publicNames = new TreeSet<>();
        for (Method method : type.getMethods()) {
            publicNames.add(method.getName());
        }
        for (Method method : type.getDeclaredMethods()) {
            see(method, name(method.getReturnType()) + " " + method.getName()
                    + "(" + names(method.getParameterTypes()) + ")");
            Check.due("seven parameters at most: " + method.getName(),
                    method.getParameterCount() <= 7, true);
            Check.due("public name of private method: " + method.getName(),
                    Modifier.isPublic(method.getModifiers())
                            || !publicNames.contains(method.getName()), true);
        }
        Check.due("public members", seen.toString(), FACE.toString());
        Check.end();
    }

    private static void see(Member member, String signature) {
        if (Modifier.isPublic(member.getModifiers())) {
            seen.add(signature);
            boolean constant = member instanceof Field;
            Check.due("static " + signature, Modifier.isStatic(member.getModifiers()), constant);
        } else {
            Check.due("private " + signature, Modifier.isPrivate(member.getModifiers()), true);
        }
    }

    private static void fieldTypes(Field field) {
        Class<?> type = field.getType();
        if (Modifier.isStatic(field.getModifiers())) {
            Check.due("final " + field, Modifier.isFinal(field.getModifiers()), true);
            Check.due("int or long " + field, type == int.class || type == long.class, true);
            return;
        }
        Class<?> cell = type.isArray() ? type.getComponentType() : type;
        Check.due("number or array of numbers " + field, cell.isPrimitive()
                && cell != float.class && cell != double.class, true);
    }

    private static String name(Class<?> type) {
        return type.getSimpleName();
    }

    private static String names(Class<?>[] types) {
        return String.join(",", Arrays.stream(types).map(FaceTest::name).toList());
    }
}
