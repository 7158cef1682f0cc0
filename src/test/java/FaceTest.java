import java.lang.reflect.Field;
import java.lang.reflect.Method;
import java.lang.reflect.Modifier;
import java.util.Arrays;
import java.util.Set;
import java.util.TreeSet;

/** The public face, and rule 1 of LANGUAGE.md: nothing else can be seen from outside. */
public final class FaceTest {
    public static void main(String[] args) throws Exception {
        theClassAndItsConstructor();
        theMethodsAndNoOther();
        noOtherMember();
        theClassesInside();
        Check.end();
    }

    private static void theClassAndItsConstructor() throws Exception {
        Check.same("is public", Modifier.isPublic(RealText.class.getModifiers()), true);
        Check.same("is final", Modifier.isFinal(RealText.class.getModifiers()), true);
        Check.same("constructors", RealText.class.getDeclaredConstructors().length, 1);
        Check.same("constructor", RealText.class.getConstructor().toGenericString(),
                "public RealText()");
    }

    private static void theMethodsAndNoOther() {
        Set<String> seen = new TreeSet<>();
        for (Method method : RealText.class.getDeclaredMethods()) {
            if (!Modifier.isPrivate(method.getModifiers())) {
                seen.add(method.toGenericString().replace("RealText.", "")
                        .replace("java.lang.", ""));
            }
        }
        Check.same("the face", seen, new TreeSet<>(Arrays.asList(
                "public int text(long) throws IllegalArgumentException,IllegalStateException",
                "public long read(boolean) throws IllegalArgumentException,ArithmeticException",
                "public int write(long,boolean)",
                "public long take()",
                "public int back()",
                "public int count(int) throws IllegalArgumentException")));
    }

    private static void noOtherMember() {
        Set<String> face = new TreeSet<>(
                Arrays.asList("text", "read", "write", "take", "back", "count"));
        for (Method method : RealText.class.getDeclaredMethods()) {
            boolean isHidden = Modifier.isPrivate(method.getModifiers());
            Check.same(method + " bears a name of the face", face.contains(method.getName()),
                    !isHidden);
        }
        for (Field field : RealText.class.getDeclaredFields()) {
            Check.same("private " + field, Modifier.isPrivate(field.getModifiers()), true);
        }
    }

    private static void theClassesInside() {
        for (Class<?> inside : RealText.class.getDeclaredClasses()) {
            int modifiers = inside.getModifiers();
            Check.same(inside + " is static", Modifier.isStatic(modifiers), true);
            Check.same(inside + " is seen from outside",
                    Modifier.isPublic(modifiers) || Modifier.isProtected(modifiers), false);
        }
    }
}
