import java.lang.reflect.Constructor;
import java.lang.reflect.Field;
import java.lang.reflect.Method;
import java.lang.reflect.Modifier;
import java.util.Arrays;
import java.util.HashSet;
import java.util.Set;
import java.util.TreeSet;

/** The document's public face, and nothing beside it that others could see. */
public final class FaceTest {
    private static final Set<String> FACE = new TreeSet<>(Arrays.asList(
            "public static final int NONE",
            "public ()",
            "public void message(int) throws IllegalArgumentException",
            "public void digits(int, long) throws IllegalArgumentException",
            "public void letters(int, long, int) throws IllegalArgumentException",
            "public void original(int, int, int) throws IllegalArgumentException",
            "public boolean omit(int) throws IllegalArgumentException",
            "public int type()",
            "public int size(int) throws IllegalArgumentException",
            "public int at(int, int) throws IllegalArgumentException",
            "public long number(int) throws IllegalArgumentException",
            "public int fields()",
            "public int compose()",
            "public int feed(int) throws IllegalStateException",
            "public int trim(int) throws IllegalArgumentException",
            "public int spoil(int, int) throws IllegalArgumentException",
            "public int fault(int) throws IllegalArgumentException",
            "public boolean read()"));

    private FaceTest() {
    }

    public static void main(String[] args) {
        Class<?> face = CardMessages.class;
        Due.due("the class", Modifier.toString(face.getModifiers()), "public final");
        Set<String> seen = new TreeSet<>();
        for (Field one : face.getDeclaredFields()) {
            if (!Modifier.isPrivate(one.getModifiers())) {
                seen.add(Modifier.toString(one.getModifiers()) + " " + one.getType().getSimpleName()
                        + " " + one.getName());
            }
        }
        for (Constructor<?> one : face.getDeclaredConstructors()) {
            seen.add(Modifier.toString(one.getModifiers()) + " " + types(one.getParameterTypes()));
        }
        for (Method one : face.getDeclaredMethods()) {
            if (!Modifier.isPrivate(one.getModifiers())) {
                seen.add(described(one));
            }
        }
        Due.due("the face", seen.toString(), FACE.toString());
        staticsAreFinal(face);
        namesAreTheirOwn(face);
        Due.end("FaceTest");
    }

    private static String described(Method one) {
        StringBuilder text = new StringBuilder(Modifier.toString(one.getModifiers()));
        text.append(' ').append(one.getReturnType().getSimpleName()).append(' ').append(one.getName());
        text.append(types(one.getParameterTypes()));
        for (Class<?> thrown : one.getExceptionTypes()) {
            text.append(" throws ").append(thrown.getSimpleName());
        }
        return text.toString();
    }

    private static String types(Class<?>[] types) {
        StringBuilder text = new StringBuilder("(");
        for (Class<?> type : types) {
            text.append(text.length() == 1 ? "" : ", ").append(type.getSimpleName());
        }
        return text.append(')').toString();
    }

    private static void staticsAreFinal(Class<?> face) {
        for (Field one : face.getDeclaredFields()) {
            boolean loose = Modifier.isStatic(one.getModifiers()) && !Modifier.isFinal(one.getModifiers());
            Due.due("static and not final: " + one.getName(), loose, false);
        }
    }

    private static void namesAreTheirOwn(Class<?> face) {
        Set<String> open = new HashSet<>();
        for (Method one : face.getMethods()) {
            open.add(one.getName());
        }
        for (Method one : face.getDeclaredMethods()) {
            boolean doubled = Modifier.isPrivate(one.getModifiers()) && open.contains(one.getName());
            Due.due("private with a public name: " + one.getName(), doubled, false);
        }
        for (Class<?> inside : face.getDeclaredClasses()) {
            boolean fits = Modifier.isStatic(inside.getModifiers()) && !Modifier.isPublic(inside.getModifiers());
            Due.due("static and not public: " + inside.getName(), fits, true);
            for (Method one : inside.getDeclaredMethods()) {
                boolean doubled = Modifier.isPrivate(one.getModifiers()) && open.contains(one.getName());
                Due.due("private with a public name: " + one.getName(), doubled, false);
            }
        }
    }
}
