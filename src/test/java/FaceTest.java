import java.lang.reflect.Constructor;
import java.lang.reflect.Field;
import java.lang.reflect.Member;
import java.lang.reflect.Method;
import java.lang.reflect.Modifier;
import java.util.Arrays;
import java.util.Set;
import java.util.TreeSet;

/** The public face has what the document names, and no more; no private method shares a name. */
public final class FaceTest {
    private static final Set<String> FACE = new TreeSet<>(Arrays.asList(
            "public static final int NONE",
            "StemShapes(int, int)",
            "aim(int, double, double) void throws AI",
            "shadow(int, int, double, double) void throws AI",
            "lift(int, int) boolean throws A",
            "run() int",
            "shape(int, int) double throws AS",
            "fitted(int) boolean throws AS",
            "inside(int, double, double) boolean throws AIS",
            "wholes(int) int throws AS",
            "volume() double throws S",
            "taper() double throws S",
            "sweep() double throws S",
            "rule(int, double, int) int throws IS",
            "cls() int throws S",
            "keep() void throws S",
            "apart(int) double throws IS",
            "match() int throws S",
            "law(long, long, long) long throws I"));
    private static final Due DUE = new Due();
    private static final Set<String> SEEN = new TreeSet<>();

    public static void main(String[] args) {
        Class<StemShapes> face = StemShapes.class;
        DUE.answer("the class is public and final",
                (face.getModifiers() & (Modifier.PUBLIC | Modifier.FINAL))
                        == (Modifier.PUBLIC | Modifier.FINAL), true);
        for (Field field : face.getDeclaredFields()) {
            look(field, Modifier.toString(field.getModifiers()) + " " + field.getType() + " "
                    + field.getName());
        }
        for (Constructor<?> made : face.getDeclaredConstructors()) {
            look(made, "StemShapes" + types(made.getParameterTypes()));
        }
        for (Method method : face.getDeclaredMethods()) {
            look(method, method.getName() + types(method.getParameterTypes()) + " "
                    + method.getReturnType() + thrown(method));
        }
        if (!SEEN.equals(FACE)) {
            DUE.complain("the public face", SEEN.toString(), FACE.toString());
        }
        privateNamesDiffer(face, face);
        for (Class<?> part : face.getDeclaredClasses()) {
            DUE.answer(part.getName() + " is static", Modifier.isStatic(part.getModifiers()), true);
            privateNamesDiffer(face, part);
        }
        DUE.end();
    }

    private static void look(Member member, String text) {
        if (Modifier.isPublic(member.getModifiers())) {
            SEEN.add(text);
        } else {
            DUE.answer(text + " is private", Modifier.isPrivate(member.getModifiers()), true);
        }
    }

    private static void privateNamesDiffer(Class<?> face, Class<?> part) {
        for (Method own : part.getDeclaredMethods()) {
            for (Method open : face.getDeclaredMethods()) {
                boolean clash = !Modifier.isPublic(own.getModifiers())
                        && Modifier.isPublic(open.getModifiers())
                        && own.getName().equals(open.getName());
                DUE.answer(own + " shares a name", clash, false);
            }
        }
    }

    /** The first letters that tell the exceptions apart, in the order in which they are named. */
    private static String thrown(Method method) {
        StringBuilder text = new StringBuilder();
        for (Class<?> type : method.getExceptionTypes()) {
            text.append(type == ArrayIndexOutOfBoundsException.class ? "A"
                    : type == IllegalArgumentException.class ? "I"
                    : type == IllegalStateException.class ? "S" : type.getName());
        }
        return text.length() == 0 ? "" : " throws " + text;
    }

    private static String types(Class<?>[] types) {
        return Arrays.toString(types).replace('[', '(').replace(']', ')');
    }
}
