import java.lang.reflect.Constructor;
import java.lang.reflect.Field;
import java.lang.reflect.Member;
import java.lang.reflect.Method;
import java.lang.reflect.Modifier;
import java.util.Arrays;
import java.util.TreeSet;

/** The class's face is the document's, and nothing else of it can be seen from outside. */
public final class FaceTest {
    private static final String[] FACE = {
        "CopperNets(int)",
        "boolean drop(int) IndexOutOfBoundsException",
        "boolean exact()",
        "boolean plans(int,int) IndexOutOfBoundsException IllegalArgumentException",
        "boolean same()",
        "int NONE",
        "int line(int,int,int) IndexOutOfBoundsException",
        "int netOf(int) IndexOutOfBoundsException",
        "int opens(int) IndexOutOfBoundsException",
        "int pad(int,int,long,long,long) IndexOutOfBoundsException IllegalArgumentException",
        "int run()",
        "int shape(int,long,long,long,long) IndexOutOfBoundsException IllegalArgumentException",
        "int shorts()",
        "int unnamed(int)",
        "int unreached(int)",
        "int via(int,int,long,long,long) IndexOutOfBoundsException IllegalArgumentException",
        "long open(int,int,int) IndexOutOfBoundsException",
        "long short2(int,int) IndexOutOfBoundsException",
    };

    public static void main(String[] args) {
        Check check = new Check();
        TreeSet<String> found = new TreeSet<>();
        for (Constructor<?> c : CopperNets.class.getDeclaredConstructors()) {
            if (seen(c)) {
                found.add("CopperNets" + types(c.getParameterTypes()) + thrown(c.getExceptionTypes()));
            }
        }
        for (Method m : CopperNets.class.getDeclaredMethods()) {
            if (seen(m)) {
                found.add(m.getReturnType().getSimpleName() + " " + m.getName() + types(m.getParameterTypes())
                        + thrown(m.getExceptionTypes()));
            }
        }
        for (Field f : CopperNets.class.getDeclaredFields()) {
            if (seen(f)) {
                found.add(f.getType().getSimpleName() + " " + f.getName());
            }
        }
        check.due("the face", found, new TreeSet<>(Arrays.asList(FACE)));
        check.due("the class is public and final", Modifier.toString(CopperNets.class.getModifiers()), "public final");
        check.due("NONE", CopperNets.NONE, -1);
        for (Class<?> inside : CopperNets.class.getDeclaredClasses()) {
            check.due(inside.getName() + " is static", Modifier.isStatic(inside.getModifiers()), true);
            check.due(inside.getName() + " is public", Modifier.isPublic(inside.getModifiers()), false);
        }
        check.end();
    }

    private static boolean seen(Member m) {
        return !Modifier.isPrivate(m.getModifiers()) && !m.isSynthetic();
    }

    private static String types(Class<?>[] types) {
        StringBuilder text = new StringBuilder("(");
        for (Class<?> type : types) {
            text.append(text.length() == 1 ? "" : ",").append(type.getSimpleName());
        }
        return text.append(")").toString();
    }

    private static String thrown(Class<?>[] types) {
        StringBuilder text = new StringBuilder();
        for (Class<?> type : types) {
            text.append(" ").append(type.getSimpleName());
        }
        return text.toString();
    }
}
