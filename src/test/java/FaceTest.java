import java.lang.reflect.Constructor;
import java.lang.reflect.Field;
import java.lang.reflect.Method;
import java.lang.reflect.Modifier;
import java.util.Arrays;
import java.util.TreeSet;

// The class shows the document's face and nothing else (LANGUAGE.md, rule 1),
// and its static fields are constants (rule 5).
public final class FaceTest {
    private static int wrong = 0;

    private static void check(boolean holds, String what) {
        if (!holds) {
            wrong++;
            System.out.println("not so: " + what);
        }
    }

    public static void main(String[] args) {
        Class<?> c = PeerRoutes.class;
        check(Modifier.isPublic(c.getModifiers()) && Modifier.isFinal(c.getModifiers()),
            "the class is public and final");
        check(c.getSuperclass() == Object.class && c.getInterfaces().length == 0,
            "the class extends and implements nothing");
        check(c.getDeclaredClasses().length == 0, "there is no nested class");
        Constructor<?>[] constructors = c.getDeclaredConstructors();
        check(constructors.length == 1 && constructors[0].getParameterCount() == 0
            && Modifier.isPublic(constructors[0].getModifiers()), "there is one constructor, public");
        checkMethods(c);
        checkFields(c);
        System.out.println(wrong == 0 ? "the face is the document's" : wrong + " faults");
        if (wrong != 0) {
            System.exit(1);
        }
    }

    private static void checkMethods(Class<?> c) {
        TreeSet<String> open = new TreeSet<>();
        TreeSet<String> openNames = new TreeSet<>();
        for (Method m : c.getDeclaredMethods()) {
            if (!Modifier.isPrivate(m.getModifiers())) {
                open.add(Modifier.toString(m.getModifiers()) + " " + m.getReturnType() + " "
                    + m.getName() + " " + Arrays.toString(m.getParameterTypes()));
                openNames.add(m.getName());
            }
        }
        TreeSet<String> due = new TreeSet<>(Arrays.asList(
            "public int allow [int, int, int]",
            "public int deny [int, int]",
            "public int forget [int]",
            "public int owner [int]",
            "public int length [int]",
            "public int owned [int]",
            "public int next [int, int]",
            "public int useless []",
            "public int entries [int]"));
        check(open.equals(due), "the methods that can be seen are the document's: " + open);
        for (Method m : c.getDeclaredMethods()) {
            check(!Modifier.isPrivate(m.getModifiers()) || !openNames.contains(m.getName()),
                "no private method has the name of a public one: " + m.getName());
        }
    }

    private static void checkFields(Class<?> c) {
        for (Field f : c.getDeclaredFields()) {
            int modifiers = f.getModifiers();
            check(Modifier.isPrivate(modifiers), "the field is private: " + f.getName());
            boolean number = f.getType() == int.class || f.getType() == long.class;
            check(!Modifier.isStatic(modifiers) || Modifier.isFinal(modifiers) && number,
                "the static field is a constant number: " + f.getName());
        }
    }
}
