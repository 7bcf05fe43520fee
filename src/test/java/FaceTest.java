import java.lang.reflect.Field;
import java.lang.reflect.Method;
import java.lang.reflect.Modifier;
import java.util.Set;
import java.util.TreeSet;

/** The class has the document's public face and no other member that is not private. */
public final class FaceTest {
    private static final Set<String> FACE = Set.of(
        "move 3", "name 3", "deliver 2", "sync 2", "parent 2", "label 2",
        "children 2", "depth 2", "skipped 1", "alike 2");

    public static void main(String[] args) {
        Class<?> c = MoveTree.class;
        Answers.holds("the class is public and final",
            Modifier.isPublic(c.getModifiers()) && Modifier.isFinal(c.getModifiers()));
        Answers.holds("no class is nested in it", c.getDeclaredClasses().length == 0);
        Answers.holds("it extends Object alone",
            c.getSuperclass() == Object.class && c.getInterfaces().length == 0);
        Answers.holds("one public constructor without parameters",
            c.getDeclaredConstructors().length == 1 && c.getConstructors().length == 1
                && c.getConstructors()[0].getParameterCount() == 0);
        checkMethods(c);
        checkFields(c);
        Answers.end();
    }

    private static void checkMethods(Class<?> c) {
        Set<String> names = new TreeSet<>();
        for (String entry : FACE) {
            names.add(entry.split(" ")[0]);
        }
        Set<String> found = new TreeSet<>();
        for (Method m : c.getDeclaredMethods()) {
            if (Modifier.isPrivate(m.getModifiers())) {
                Answers.holds("private " + m.getName() + " has a name of its own", !names.contains(m.getName()));
                continue;
            }
            found.add(m.getName() + " " + m.getParameterCount());
            Answers.holds(m.getName() + " is public, not static, and answers an int",
                Modifier.isPublic(m.getModifiers()) && !Modifier.isStatic(m.getModifiers())
                    && m.getReturnType() == int.class);
            for (Class<?> parameter : m.getParameterTypes()) {
                Answers.holds(m.getName() + " takes ints", parameter == int.class);
            }
        }
        Answers.holds("the methods are those of the document: " + found, found.equals(new TreeSet<>(FACE)));
    }

    private static void checkFields(Class<?> c) {
        for (Field f : c.getDeclaredFields()) {
            Answers.holds(f.getName() + " is private", Modifier.isPrivate(f.getModifiers()));
            if (Modifier.isStatic(f.getModifiers())) {
                Answers.holds(f.getName() + " is a constant of int or long", Modifier.isFinal(f.getModifiers())
                    && (f.getType() == int.class || f.getType() == long.class));
            }
        }
    }
}
