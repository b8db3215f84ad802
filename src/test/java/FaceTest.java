import java.lang.reflect.Constructor;
import java.lang.reflect.Field;
import java.lang.reflect.Method;
import java.lang.reflect.Modifier;
import java.util.ArrayList;
import java.util.Arrays;
import java.util.Collections;
import java.util.HashSet;
import java.util.List;
import java.util.Set;

/** The document's public face, and the rules of LANGUAGE.md that a compiled class can show. */
public final class FaceTest {
    private static final String[] FACE = {
        "boolean gauge(int, int)", "boolean leak(int, int)", "boolean look(int, int, int)",
        "boolean pump(int)", "int batch(int, int)", "int boil(int)", "int count(int)",
        "int day(int, int)", "int dump()", "int fault()", "int feed(int, int, int, int, int)",
        "int foretold(int, int, int)", "int let(int)", "int member(int, int)",
        "int node(int, int, int, int)", "int nodeOf(int, int)", "int pan(int)", "int rules(int)",
        "int sell(int, int)", "int tap(int, int)", "int tree(int, int)", "int treeOf(int, int)",
        "int wood(int)", "int year()"};

    public static void main(String[] args) {
        Class<?> face = MapleLines.class;
        Check.due("public final", face.getModifiers(), Modifier.PUBLIC | Modifier.FINAL);
        dueMethods(face);
        dueFields(face);
        Constructor<?>[] makers = face.getDeclaredConstructors();
        Check.due("constructors", makers.length, 1);
        Check.due("constructor is public", Modifier.isPublic(makers[0].getModifiers()), true);
        Check.due("its parameters", makers[0].getParameterCount(), 0);
        Check.due("classes, some twelve", face.getDeclaredClasses().length <= 12, true);
        for (Class<?> inside : face.getDeclaredClasses()) {
            dueInside(inside);
        }
        Check.end();
    }

    private static void dueMethods(Class<?> face) {
        List<String> open = new ArrayList<>();
        Set<String> publicNames = new HashSet<>();
        for (Method method : face.getDeclaredMethods()) {
            if (!Modifier.isPrivate(method.getModifiers()) && !method.isSynthetic()) {
                open.add(signature(method));
                publicNames.add(method.getName());
                Check.due(method + " is public", method.getModifiers(), Modifier.PUBLIC);
            }
        }
        Collections.sort(open);
        List<String> due = Arrays.asList(FACE);
        if (!open.equals(due)) {
            Check.due("the methods are " + open + ", due are " + due, false, true);
        }
        dueOtherNames(face, publicNames);
        for (Class<?> inside : face.getDeclaredClasses()) {
            dueOtherNames(inside, publicNames);
        }
    }

    private static void dueOtherNames(Class<?> type, Set<String> publicNames) {
        for (Method method : type.getDeclaredMethods()) {
            boolean taken = !Modifier.isPublic(method.getModifiers())
                    && publicNames.contains(method.getName());
            Check.due(method + " has a public one's name", taken, false);
            Check.due(method + " has seven parameters at most", method.getParameterCount() <= 7,
                    true);
        }
    }

    private static String signature(Method method) {
        StringBuilder text = new StringBuilder();
        text.append(method.getReturnType()).append(' ').append(method.getName()).append('(');
        for (Class<?> type : method.getParameterTypes()) {
            text.append(text.charAt(text.length() - 1) == '(' ? "" : ", ").append(type);
        }
        return text.append(')').toString();
    }

    private static void dueFields(Class<?> face) {
        int open = 0;
        for (Field field : face.getDeclaredFields()) {
            dueConstant(field);
            if (!Modifier.isPrivate(field.getModifiers())) {
                open++;
                Check.due(field.getName() + " is NONE", field.getName().equals("NONE"), true);
            }
        }
        Check.due("open fields", open, 1);
        Check.due("NONE", MapleLines.NONE, -1);
    }

    private static void dueConstant(Field field) {
        boolean changes = Modifier.isStatic(field.getModifiers())
                && !Modifier.isFinal(field.getModifiers());
        Check.due(field + " is static state", changes, false);
    }

    private static void dueInside(Class<?> inside) {
        int modifiers = inside.getModifiers();
        Check.due(inside + " is static", Modifier.isStatic(modifiers), true);
        Check.due(inside + " is open", Modifier.isPublic(modifiers)
                || Modifier.isProtected(modifiers), false);
        int fields = 0;
        for (Field field : inside.getDeclaredFields()) {
            dueConstant(field);
            fields += Modifier.isStatic(field.getModifiers()) ? 0 : 1;
        }
        Check.due(inside + " has some twenty fields at most", fields <= 20, true);
    }
}
