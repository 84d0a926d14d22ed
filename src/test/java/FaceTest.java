import java.lang.reflect.Constructor;
import java.lang.reflect.Field;
import java.lang.reflect.Method;
import java.lang.reflect.Modifier;
import java.util.Arrays;
import java.util.List;
import java.util.Set;
import java.util.TreeSet;

/** The public face of the document, and nothing beside it that is not private. */
public final class FaceTest {
    private static final List<String> CONSTANTS = List.of(
        "MAX_TOKENS=8",
        "VALUE=0", "REF=1", "MIN=2", "MAX=3", "SUM=4", "GUARD=5",
        "OK=0", "BAD_KIND=1", "FULL=2", "BAD_ARG=3", "SHORT=4", "BAD_CELL=5", "MALFORMED=6",
        "DRAFT=-1", "NONE=-99");

    private static final List<String> METHODS = List.of(
        "int push[int, int]", "void dropDraft[]", "int commit[int]", "int setInput[int, int]",
        "int value[int]", "int delta[int]", "int edited[]", "boolean depends[int, int]",
        "int leader[int]", "int orderAt[int]", "int length[int]", "int tokenAt[int, int]",
        "int cellCount[]", "int topValue[]");

    public static void main(String[] args) throws IllegalAccessException {
        Class<?> face = LatticeSheet.class;
        int modifiers = face.getModifiers();
        Check.due("class is public and final",
            Modifier.isPublic(modifiers) && Modifier.isFinal(modifiers), true);
        Check.due("class has no package", face.getPackageName().isEmpty(), true);
        Check.due("class has no nested class", face.getDeclaredClasses().length, 0);
        same("constants", constants(face), CONSTANTS);
        same("methods", methods(face), METHODS);
        same("constructors", constructors(face), List.of("public [int, int]"));
        Check.end();
    }

    private static Set<String> constants(Class<?> face) throws IllegalAccessException {
        Set<String> found = new TreeSet<>();
        for (Field f : face.getDeclaredFields()) {
            int modifiers = f.getModifiers();
            if (Modifier.isPrivate(modifiers)) {
                continue;
            }
            boolean constant = Modifier.isPublic(modifiers) && Modifier.isStatic(modifiers)
                && Modifier.isFinal(modifiers) && f.getType() == int.class;
            found.add(constant ? f.getName() + "=" + f.getInt(null) : f.toString());
        }
        return found;
    }

    private static Set<String> methods(Class<?> face) {
        Set<String> found = new TreeSet<>();
        for (Method m : face.getDeclaredMethods()) {
            int modifiers = m.getModifiers();
            if (Modifier.isPrivate(modifiers)) {
                continue;
            }
            boolean plain = Modifier.isPublic(modifiers) && !Modifier.isStatic(modifiers);
            String said = m.getReturnType() + " " + m.getName() + Arrays.toString(m.getParameterTypes());
            found.add(plain ? said : m.toString());
        }
        return found;
    }

    private static Set<String> constructors(Class<?> face) {
        Set<String> found = new TreeSet<>();
        for (Constructor<?> c : face.getDeclaredConstructors()) {
            found.add(Modifier.toString(c.getModifiers()) + " " + Arrays.toString(c.getParameterTypes()));
        }
        return found;
    }

    private static void same(String what, Set<String> got, List<String> want) {
        Set<String> due = new TreeSet<>(want);
        if (!got.equals(due)) {
            System.out.println(what + " are " + got + ", due are " + due);
        }
        Check.due(what + " are as in the document", got.equals(due), true);
    }
}
