import java.lang.reflect.Constructor;
import java.lang.reflect.Field;
import java.lang.reflect.Method;
import java.lang.reflect.Modifier;
import java.util.ArrayList;
import java.util.HashSet;
import java.util.List;
import java.util.Set;
import java.util.TreeSet;

/** The face of the class, as the document writes it, and nothing besides. */
public final class FaceTest {
    private static final String[] FACE = {
        "int put(int,int,int) IndexOutOfBoundsException IllegalArgumentException IllegalStateException",
        "int take(int,int,int) IndexOutOfBoundsException IllegalArgumentException",
        "int change(int,int,int) IndexOutOfBoundsException IllegalArgumentException",
        "int turn(int,int,int) IndexOutOfBoundsException IllegalArgumentException",
        "int copy(int,int,int,int) IndexOutOfBoundsException IllegalArgumentException IllegalStateException",
        "int exchange()",
        "int set(int,int) IndexOutOfBoundsException IllegalArgumentException",
        "int append(int) IllegalArgumentException IllegalStateException",
        "int clearBuffer()",
        "int firstError()",
        "int read() IllegalArgumentException",
        "int keep(int) IndexOutOfBoundsException",
        "int restore(int) IndexOutOfBoundsException IllegalStateException",
        "int undo() IllegalStateException",
        "int sign(int,int) IndexOutOfBoundsException",
        "int anchor(int,int) IndexOutOfBoundsException IllegalArgumentException",
        "int turned(int,int) IndexOutOfBoundsException IllegalArgumentException",
        "int gap(int,int) IllegalArgumentException",
        "int partner(int,int) IndexOutOfBoundsException",
        "int doubled(int,int) IndexOutOfBoundsException IllegalArgumentException",
        "int count(int) IllegalArgumentException",
        "int setting(int) IndexOutOfBoundsException",
        "int ifSet(int,int) IndexOutOfBoundsException IllegalArgumentException",
        "int ifChanged(int,int,int) IndexOutOfBoundsException IllegalArgumentException",
        "int bestLength()",
        "double likeShare()",
        "long digest()",
    };

    public static void main(String[] args) {
        Class<?> face = AnchorChains.class;
        Due.same("modifiers", Modifier.toString(face.getModifiers()), "public final");
        Due.same("NONE", AnchorChains.NONE, -1);
        methods(face);
        fields(face);
        constructors(face);
        insideClasses(face);
        Due.end();
    }

    private static void methods(Class<?> face) {
        Set<String> want = new TreeSet<>(List.of(FACE));
        Set<String> got = new TreeSet<>();
        Set<String> open = new HashSet<>();
        for (Method method : face.getDeclaredMethods()) {
            if (!Modifier.isPrivate(method.getModifiers()) && !method.isSynthetic()) {
                Due.same("modifiers of " + method.getName(), Modifier.toString(method.getModifiers()), "public");
                got.add(written(method));
                open.add(method.getName());
            }
        }
        Due.same("the methods", got.toString(), want.toString());
        for (Method method : face.getDeclaredMethods()) {
            if (Modifier.isPrivate(method.getModifiers())) {
                Due.same(method.getName() + " is private and of the face", open.contains(method.getName()) ? 1 : 0, 0);
            }
        }
    }

    private static String written(Method method) {
        List<String> types = new ArrayList<>();
        for (Class<?> type : method.getParameterTypes()) {
            types.add(type.getName());
        }
        StringBuilder line = new StringBuilder();
        line.append(method.getReturnType()).append(' ').append(method.getName());
        line.append('(').append(String.join(",", types)).append(')');
        for (Class<?> thrown : method.getExceptionTypes()) {
            line.append(' ').append(thrown.getSimpleName());
        }
        return line.toString();
    }

    private static void fields(Class<?> face) {
        StringBuilder open = new StringBuilder();
        for (Field field : face.getDeclaredFields()) {
            if (!Modifier.isPrivate(field.getModifiers())) {
                open.append(Modifier.toString(field.getModifiers())).append(' ').append(field.getName());
            }
            if (Modifier.isStatic(field.getModifiers())) {
                Due.same(field.getName() + " is final", Modifier.isFinal(field.getModifiers()) ? 1 : 0, 1);
            }
        }
        Due.same("the fields", open.toString(), "public static final NONE");
    }

    private static void constructors(Class<?> face) {
        Constructor<?>[] all = face.getDeclaredConstructors();
        Due.same("constructors", all.length, 1);
        Due.same("parameters", all[0].getParameterCount(), 0);
        Due.same("the constructor", Modifier.toString(all[0].getModifiers()), "public");
    }

    private static void insideClasses(Class<?> face) {
        Due.same("some twelve classes", face.getDeclaredClasses().length < 12 ? 1 : 0, 1);
        for (Class<?> inside : face.getDeclaredClasses()) {
            int modifiers = inside.getModifiers();
            Due.same(inside.getName() + " is hidden",
                    Modifier.isPublic(modifiers) || Modifier.isProtected(modifiers) ? 0 : 1, 1);
            Due.same(inside.getName() + " is static", Modifier.isStatic(modifiers) ? 1 : 0, 1);
        }
    }
}
