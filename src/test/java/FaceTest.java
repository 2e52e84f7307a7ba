import java.lang.reflect.Constructor;
import java.lang.reflect.Field;
import java.lang.reflect.Method;
import java.lang.reflect.Modifier;
import java.util.Set;
import java.util.TreeSet;

/** The public face: every constant, constructor and method of the document, and no other that can be seen. */
public final class FaceTest {
    private static final Set<String> DUE = Set.of(
        "public static final int DesignTexts.NONE",
        "public DesignTexts()",
        "public int DesignTexts.put(int,int) throws java.lang.IllegalArgumentException,java.lang.UnsupportedOperationException",
        "public int DesignTexts.read()",
        "public int DesignTexts.about(int)",
        "public int DesignTexts.has(int,int) throws java.lang.IllegalArgumentException,java.util.NoSuchElementException",
        "public void DesignTexts.order()",
        "public int DesignTexts.write(int) throws java.lang.IllegalArgumentException,java.lang.IllegalStateException",
        "public int DesignTexts.written(int) throws java.lang.IndexOutOfBoundsException",
        "public void DesignTexts.reset()",
        "public int DesignTexts.cycle(int)",
        "public int DesignTexts.latches()");

    public static void main(String[] args) {
        Class<?> type = DesignTexts.class;
        Set<String> seen = new TreeSet<>();
        for (Field field : type.getDeclaredFields()) {
            if (!Modifier.isPrivate(field.getModifiers())) {
                seen.add(field.toString());
            }
        }
        for (Constructor<?> constructor : type.getDeclaredConstructors()) {
            seen.add(constructor.toString());
        }
        for (Method method : type.getDeclaredMethods()) {
            if (!Modifier.isPrivate(method.getModifiers())) {
                seen.add(method.toString());
            }
        }
        Desk.same("the face", seen, new TreeSet<>(DUE));
        Desk.same("public and final", Modifier.toString(type.getModifiers()), "public final");
        for (Class<?> inside : type.getDeclaredClasses()) {
            Desk.same(inside + " is static", Modifier.isStatic(inside.getModifiers()), true);
            Desk.same(inside + " is public", Modifier.isPublic(inside.getModifiers()), false);
        }
        Desk.end();
    }
}
