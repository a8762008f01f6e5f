import java.lang.reflect.Constructor;
import java.lang.reflect.Field;
import java.lang.reflect.Method;
import java.lang.reflect.Modifier;
import java.util.Arrays;
import java.util.Set;
import java.util.TreeSet;

/** The public face, and what else may be seen of the classes, by reflection. */
public final class FaceTest {
    private static final String[] FACE = {
        "int deck(int, int) IllegalArgumentException",
        "void table(int, int, int, int) IllegalArgumentException",
        "void stock(int, int, boolean) IllegalArgumentException",
        "int deal(int, int) IllegalArgumentException",
        "int numberOf(int) IllegalArgumentException",
        "int move(int, int, int) IllegalArgumentException IllegalStateException",
        "int undo(int) IllegalArgumentException",
        "int safe()",
        "int moves()",
        "int moveAt(int) IndexOutOfBoundsException",
        "int card(int, int) IllegalArgumentException",
        "int told(int) IllegalArgumentException",
        "int search(int) IllegalArgumentException",
        "int known(int) IllegalArgumentException",
        "int hint()",
        "int odds(int, int, int, int) IllegalArgumentException",
        "Patiencery()",
        "static int NONE", "static int BY_SUIT", "static int BY_COLOUR", "static int BY_RANK", "static int ANY_CARD",
        "static int HIGHEST", "static int NO_CARD", "static int LOST", "static int UNKNOWN",
    };

    private static int wrong = 0;

    private static void right(boolean is, String what) {
        if (!is) {
            wrong++;
            System.out.println("FaceTest: " + what);
        }
    }

    private static String joined(Class<?>[] types) {
        StringBuilder text = new StringBuilder();
        for (Class<?> type : types) {
            text.append(text.length() == 0 ? "" : ", ").append(type.getSimpleName());
        }
        return text.toString();
    }

    private static Set<String> face() {
        Set<String> face = new TreeSet<>();
        for (Method m : Patiencery.class.getDeclaredMethods()) {
            if (!Modifier.isPrivate(m.getModifiers())) {
                StringBuilder text = new StringBuilder();
                text.append(Modifier.isPublic(m.getModifiers()) ? "" : "not public ");
                text.append(Modifier.isStatic(m.getModifiers()) ? "static " : "");
                text.append(m.getReturnType().getSimpleName()).append(' ').append(m.getName());
                text.append('(').append(joined(m.getParameterTypes())).append(')');
                for (Class<?> thrown : m.getExceptionTypes()) {
                    text.append(' ').append(thrown.getSimpleName());
                }
                face.add(text.toString());
            }
        }
        for (Constructor<?> c : Patiencery.class.getDeclaredConstructors()) {
            face.add((Modifier.isPublic(c.getModifiers()) ? "" : "not public ") + "Patiencery(" + joined(c.getParameterTypes()) + ")");
        }
        for (Field f : Patiencery.class.getDeclaredFields()) {
            if (!Modifier.isPrivate(f.getModifiers())) {
                boolean constant = Modifier.isPublic(f.getModifiers()) && Modifier.isFinal(f.getModifiers());
                face.add((constant ? "" : "no constant ") + (Modifier.isStatic(f.getModifiers()) ? "static " : "")
                    + f.getType().getSimpleName() + " " + f.getName());
            }
        }
        return face;
    }

    private static void privateNames() {
        Set<String> names = new TreeSet<>();
        for (Method m : Patiencery.class.getDeclaredMethods()) {
            if (Modifier.isPublic(m.getModifiers())) {
                names.add(m.getName());
            }
        }
        Class<?>[] inside = Patiencery.class.getDeclaredClasses();
        right(inside.length <= 12, "more than 12 classes inside");
        for (Class<?> c : inside) {
            right(Modifier.isStatic(c.getModifiers()) && !Modifier.isPublic(c.getModifiers())
                && !Modifier.isProtected(c.getModifiers()), c + " is not static, or to be seen");
            for (Method m : c.getDeclaredMethods()) {
                right(!names.contains(m.getName()), m + " bears the name of a public one");
            }
            right(Arrays.stream(c.getDeclaredFields()).filter(f -> !Modifier.isStatic(f.getModifiers())).count() <= 20,
                c + " has more than 20 fields");
        }
        for (Method m : Patiencery.class.getDeclaredMethods()) {
            right(Modifier.isPublic(m.getModifiers()) || !names.contains(m.getName()), m + " bears a public name");
            right(m.getParameterCount() <= 7, m + " takes more than seven parameters");
        }
    }

    public static void main(String[] args) {
        right(Modifier.isPublic(Patiencery.class.getModifiers()) && Modifier.isFinal(Patiencery.class.getModifiers()),
            "Patiencery is public and final");
        right(Patiencery.class.getPackageName().isEmpty(), "Patiencery has no package");
        Set<String> due = new TreeSet<>(Arrays.asList(FACE));
        Set<String> got = face();
        right(got.equals(due), "the face is " + got);
        privateNames();
        System.out.println("FaceTest: " + (wrong == 0 ? "the face is as told" : wrong + " wrong"));
        if (wrong != 0) {
            System.exit(1);
        }
    }
}
