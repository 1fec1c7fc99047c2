import java.lang.reflect.Constructor;
import java.lang.reflect.Field;
import java.lang.reflect.Member;
import java.lang.reflect.Method;
import java.lang.reflect.Modifier;
import java.util.Arrays;
import java.util.List;
import java.util.TreeSet;

/** The class has the document's face, and no other member that can be reached from outside. */
public final class FaceTests {
    private static final List<String> FACE = List.of(
        "BAD = -1", "NO = -2", "FULL = -3", "NONE = -4", "GapPieces()", "board(int, int)", "walls(int, int)", "piece(int)",
        "about(int, int)", "put(int, int, int)", "away(int)", "stands(int, int, int)", "slide(int, int, int)", "way(int, int, int)",
        "stepOf(int)", "out(int)", "places(int, int)", "blocks(int, int)", "order(int, int)", "apart(int)", "push(int, int, int)",
        "strip(int, int, int, int)", "best(int, int, int)", "count(int)");

    private static int wrong = 0;

    public static void main(String[] args) throws IllegalAccessException {
        Class<?> face = GapPieces.class;
        same("modifiers of the class", Modifier.toString(face.getModifiers()), "public final");
        same("package", face.getPackageName(), "");
        same("class above it", face.getSuperclass().getName(), "java.lang.Object");
        same("interfaces", face.getInterfaces().length + "", "0");
        TreeSet<String> found = new TreeSet<>();
        for (Field field : face.getDeclaredFields()) {
            if (isSeen(field)) {
                same("modifiers of " + field, Modifier.toString(field.getModifiers()) + " " + field.getType(), "public static final int");
                found.add(field.getName() + " = " + field.get(null));
            }
        }
        for (Constructor<?> made : face.getDeclaredConstructors()) {
            if (isSeen(made)) {
                same("modifiers of " + made, Modifier.toString(made.getModifiers()), "public");
                found.add("GapPieces" + told(made.getParameterTypes()));
            }
        }
        for (Method method : face.getDeclaredMethods()) {
            if (isSeen(method)) {
                same("modifiers of " + method, Modifier.toString(method.getModifiers()) + " " + method.getReturnType(), "public int");
                found.add(method.getName() + told(method.getParameterTypes()));
            }
        }
        same("the face", found.toString(), new TreeSet<>(FACE).toString());
        System.out.println("FaceTests: " + found.size() + " members, " + wrong + " wrong");
        if (wrong != 0) {
            System.exit(1);
        }
    }

    private static boolean isSeen(Member member) {
        return !Modifier.isPrivate(member.getModifiers()) && !member.isSynthetic();
    }

    private static String told(Class<?>[] types) {
        return Arrays.toString(types).replace('[', '(').replace(']', ')');
    }

    private static void same(String what, String got, String want) {
        if (!got.equals(want)) {
            wrong++;
            System.out.println(what + ": " + got + ", due is " + want);
        }
    }
}
