import java.lang.reflect.Constructor;
import java.lang.reflect.Field;
import java.lang.reflect.Member;
import java.lang.reflect.Method;
import java.lang.reflect.Modifier;
import java.util.Set;
import java.util.TreeSet;

/** The public face: the members that the document writes, and no others that are not private. */
public final class FaceTest {
    public static void main(String[] args) {
        Set<String> got = new TreeSet<>();
        for (Method method : BarCodes.class.getDeclaredMethods()) {
            add(got, method, method.toString());
        }
        for (Field field : BarCodes.class.getDeclaredFields()) {
            add(got, field, field.toString());
        }
        for (Constructor<?> constructor : BarCodes.class.getDeclaredConstructors()) {
            add(got, constructor, constructor.toString());
        }
        Due.same("the face", String.join("\n", got), String.join("\n", new TreeSet<>(wanted())));
        Due.same("the class", Modifier.toString(BarCodes.class.getModifiers()), "public final");
        Due.same("NONE", BarCodes.NONE, -1);
        Due.end();
    }

    private static void add(Set<String> members, Member member, String text) {
        if (!Modifier.isPrivate(member.getModifiers()) && !member.isSynthetic()) {
            members.add(text.replace("java.lang.", "").replace("BarCodes.", ""));
        }
    }

    private static Set<String> wanted() {
        return Set.of(
                "public static final int NONE",
                "public BarCodes(int)",
                "public void field(int,long) throws IndexOutOfBoundsException,IllegalArgumentException",
                "public int make()",
                "public int bar(int) throws ArrayIndexOutOfBoundsException",
                "public void read(int) throws IllegalArgumentException,IllegalStateException",
                "public void erased() throws IllegalStateException",
                "public int parse()",
                "public long value(int) throws IndexOutOfBoundsException",
                "public int mended()",
                "public int mask()",
                "public int over(int,int) throws ArithmeticException",
                "public boolean turned()");
    }
}
