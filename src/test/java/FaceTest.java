import java.lang.reflect.Constructor;
import java.lang.reflect.Field;
import java.lang.reflect.Method;
import java.lang.reflect.Modifier;
import java.util.Set;
import java.util.TreeSet;

/** The class has the document's public face and no other member that can be seen from outside. */
public final class FaceTest {
    private static final Set<String> FACE = Set.of(
            "BAD_BLOCK = -1", "BAD_PLACE = -2", "BAD_VALUE = -3", "NOT_GOOD = -4", "NO_BLOCK = -5",
            "TOO_MANY = -6", "GOOD = 0", "LOST = 1", "SPOILED = 2", "ParityArchive/0",
            "int write/3", "int protect/1", "int lose/1", "int loseRecovery/1", "int spoil/3",
            "int repair/0", "int giveUp/0", "int read/2", "int state/1", "int spare/0",
            "int margin/0");

    public static void main(String[] args) throws IllegalAccessException {
        Class<?> c = ParityArchive.class;
        due("public final class", c.getModifiers(), Modifier.PUBLIC | Modifier.FINAL);
        due("nested classes", c.getDeclaredClasses().length, 0);
        Set<String> seen = seenFromOutside(c);
        for (String member : FACE) {
            due("has " + member, seen.contains(member) ? 1 : 0, 1);
        }
        for (String member : seen) {
            due("may have " + member, FACE.contains(member) ? 1 : 0, 1);
        }
        for (Field f : c.getDeclaredFields()) {
            boolean number = f.getType() == int.class || f.getType() == long.class;
            if (Modifier.isStatic(f.getModifiers())) {
                due("static " + f.getName() + " is a number and final",
                        number && Modifier.isFinal(f.getModifiers()) ? 1 : 0, 1);
            }
        }
        Due.end();
    }

    private static void due(String what, long got, long want) {
        Due.due(what, got, want);
    }

    private static Set<String> seenFromOutside(Class<?> c) throws IllegalAccessException {
        Set<String> seen = new TreeSet<>();
        for (Field f : c.getDeclaredFields()) {
            if (!Modifier.isPrivate(f.getModifiers())) {
                boolean constant = f.getModifiers() == (Modifier.PUBLIC | Modifier.STATIC | Modifier.FINAL);
                seen.add(f.getName() + (constant ? " = " + f.getInt(null) : " is no constant"));
            }
        }
        for (Constructor<?> k : c.getDeclaredConstructors()) {
            seen.add((Modifier.isPublic(k.getModifiers()) ? "" : "hidden ")
                    + k.getName() + "/" + k.getParameterCount());
        }
        for (Method m : c.getDeclaredMethods()) {
            if (!Modifier.isPrivate(m.getModifiers())) {
                boolean plain = m.getModifiers() == Modifier.PUBLIC;
                seen.add((plain ? "" : "other ") + m.getReturnType() + " " + m.getName() + "/" + m.getParameterCount());
            }
        }
        return seen;
    }
}
