import java.lang.reflect.Constructor;
import java.lang.reflect.Field;
import java.lang.reflect.Member;
import java.lang.reflect.Method;
import java.lang.reflect.Modifier;
import java.util.Set;
import java.util.TreeSet;

/** The class has the members of the document's public face and no other that can be seen. */
public final class FaceTest {
    private static final Set<String> FACE = Set.of(
        "public static final int RoundedFloats.INEXACT",
        "public static final int RoundedFloats.LIMIT",
        "public static final int RoundedFloats.INVALID",
        "public static final int RoundedFloats.BAD",
        "public RoundedFloats(int)",
        "public int RoundedFloats.precision()",
        "public boolean RoundedFloats.setMode(int)",
        "public int RoundedFloats.load(int,int,int)",
        "public int RoundedFloats.add(int,int,int)",
        "public int RoundedFloats.sub(int,int,int)",
        "public int RoundedFloats.mul(int,int,int)",
        "public int RoundedFloats.div(int,int,int)",
        "public int RoundedFloats.root(int,int)",
        "public int RoundedFloats.fuse(int,int)",
        "public int RoundedFloats.mantissa(int)",
        "public int RoundedFloats.exponent(int)",
        "public int RoundedFloats.compare(int,int)",
        "public boolean RoundedFloats.next(int,boolean)",
        "public int RoundedFloats.takeFlags()");

    private static final Set<String> seen = new TreeSet<>();

    private static void look(Member member, String text) {
        if (!Modifier.isPrivate(member.getModifiers())) {
            seen.add(text);
        }
    }

    public static void main(String[] args) {
        for (Field field : RoundedFloats.class.getDeclaredFields()) {
            look(field, field.toString());
        }
        for (Constructor<?> constructor : RoundedFloats.class.getDeclaredConstructors()) {
            look(constructor, constructor.toString());
        }
        for (Method method : RoundedFloats.class.getDeclaredMethods()) {
            look(method, method.toString());
        }
        boolean isFinal = Modifier.isFinal(RoundedFloats.class.getModifiers());
        if (seen.equals(new TreeSet<>(FACE)) && isFinal) {
            System.out.println("the face is as due");
            return;
        }
        System.out.println("due is " + new TreeSet<>(FACE) + ", found is " + seen + ", final: " + isFinal);
        System.exit(1);
    }
}
