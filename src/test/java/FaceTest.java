import java.lang.reflect.Constructor;
import java.lang.reflect.Field;
import java.lang.reflect.Method;
import java.lang.reflect.Modifier;
import java.util.ArrayList;
import java.util.List;
import java.util.TreeSet;

/** The document's face, whole and nothing beside it; rules 1 and 5 of LANGUAGE.md. */
public final class FaceTest {
    private static final String[] FACE = {
        "int at(int) IndexOutOfBoundsException",
        "int delete(int,int,int) IllegalArgumentException UnsupportedOperationException"
            + " IndexOutOfBoundsException IllegalStateException",
        "int events(int) IllegalArgumentException",
        "int heads()",
        "int insert(int,int,int,int) IllegalArgumentException UnsupportedOperationException"
            + " IndexOutOfBoundsException IllegalStateException",
        "int length()",
        "int line(int) NoSuchElementException",
        "int parent(int,int) NoSuchElementException UnsupportedOperationException IllegalStateException",
        "int seen() UnsupportedOperationException",
        "int spot(int,int) NoSuchElementException UnsupportedOperationException",
        "int was(int) IndexOutOfBoundsException",
        "int wasAt(int,int) IndexOutOfBoundsException",
        "long who(int) IndexOutOfBoundsException",
    };

    public static void main(String[] args) {
        Check.same("the public methods", publicMethods().toString(), new TreeSet<>(List.of(FACE)).toString());
        Check.same("other members that are not private", otherVisible().toString(), "[]");
        Check.same("private methods with a public name", borrowedNames().toString(), "[]");
        Check.same("static fields that are not final", looseStatics().toString(), "[]");
        Check.same("public and final", WeaveCore.class.getModifiers(), Modifier.PUBLIC | Modifier.FINAL);
        Check.end();
    }

    private static TreeSet<String> publicMethods() {
        TreeSet<String> all = new TreeSet<>();
        for (Method method : WeaveCore.class.getDeclaredMethods()) {
            if (!Modifier.isPrivate(method.getModifiers())) {
                all.add(told(method));
            }
        }
        return all;
    }

    private static String told(Method method) {
        List<String> takes = new ArrayList<>();
        for (Class<?> type : method.getParameterTypes()) {
            takes.add(type.getSimpleName());
        }
        StringBuilder text = new StringBuilder();
        text.append(method.getReturnType().getSimpleName()).append(' ').append(method.getName());
        text.append('(').append(String.join(",", takes)).append(')');
        for (Class<?> type : method.getExceptionTypes()) {
            text.append(' ').append(type.getSimpleName());
        }
        return text.toString();
    }

    private static List<String> otherVisible() {
        List<String> all = new ArrayList<>();
        for (Field field : WeaveCore.class.getDeclaredFields()) {
            if (!Modifier.isPrivate(field.getModifiers())) {
                all.add(field.getName());
            }
        }
        for (Constructor<?> made : WeaveCore.class.getDeclaredConstructors()) {
            if (made.getModifiers() != Modifier.PUBLIC || made.getParameterCount() != 0) {
                all.add(made.toString());
            }
        }
        for (Class<?> inside : WeaveCore.class.getDeclaredClasses()) {
            int how = inside.getModifiers();
            if (!Modifier.isStatic(how) || Modifier.isPublic(how) || Modifier.isProtected(how)) {
                all.add(inside.getName());
            }
        }
        return all;
    }

    private static List<String> borrowedNames() {
        List<String> all = new ArrayList<>();
        for (Method method : WeaveCore.class.getDeclaredMethods()) {
            for (Method other : WeaveCore.class.getMethods()) {
                if (Modifier.isPrivate(method.getModifiers()) && method.getName().equals(other.getName())) {
                    all.add(method.getName());
                }
            }
        }
        return all;
    }

    private static List<String> looseStatics() {
        List<String> all = new ArrayList<>();
        List<Class<?>> classes = new ArrayList<>(List.of(WeaveCore.class.getDeclaredClasses()));
        classes.add(WeaveCore.class);
        for (Class<?> one : classes) {
            for (Field field : one.getDeclaredFields()) {
                if (Modifier.isStatic(field.getModifiers()) && !Modifier.isFinal(field.getModifiers())) {
                    all.add(field.getName());
                }
            }
        }
        return all;
    }
}
