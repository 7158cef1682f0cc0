import java.lang.reflect.Field;
import java.lang.reflect.Method;
import java.lang.reflect.Modifier;
import java.util.Arrays;
import java.util.Set;
import java.util.TreeSet;

/** The public face, and rule 1 of LANGUAGE.md: nothing else can be seen from outside. */
public final class FaceTest {
    public static void main(String[] args) throws Exception {
        Set<String> seen = new TreeSet<>();
        for (Method method : RealText.class.getDeclaredMethods()) {
            if (!Modifier.isPrivate(method.getModifiers())) {
                seen.add(method.toGenericString().replace("RealText.", "")
                        .replace("java.lang.", ""));
            }
        }
        Check.same("the face", seen, new TreeSet<>(Arrays.asList(
                "public int text(long) throws IllegalArgumentException,IllegalStateException",
                "public long read(boolean) throws IllegalArgumentException,ArithmeticException",
                "public int write(long,boolean)",
                "public long take()",
                "public int back()",
                "public int count(int) throws IllegalArgumentException")));
        Check.same("is final", Modifier.isFinal(RealText.class.getModifiers()), true);
        Check.same("constructors", RealText.class.getDeclaredConstructors().length, 1);
        Check.same("public constructor",
                Modifier.isPublic(RealText.class.getConstructor().getModifiers()), true);
        for (Field field : RealText.class.getDeclaredFields()) {
            Check.same("private " + field, Modifier.isPrivate(field.getModifiers()), true);
        }
        Check.end();
    }
}
