import java.lang.reflect.Constructor;
import java.lang.reflect.Field;
import java.lang.reflect.Method;
import java.lang.reflect.Modifier;
import java.nio.file.Files;
import java.nio.file.Path;
import java.util.Arrays;
import java.util.Set;
import java.util.TreeSet;
import java.util.regex.Matcher;
import java.util.regex.Pattern;

/** The public face, by reflection, and some rules of LANGUAGE.md, by a look at the source. */
public final class FaceTest {
    private static final String[] FACE = {
        "int deck(int, int) IllegalArgumentException",
        "void table(int, int, int, int) IllegalArgumentException",
        "void stock(int, int, boolean) IllegalArgumentException",
        "int deal(int, int) IllegalArgumentException",
        "int numberOf(int) IllegalArgumentException",
        "int move(int, int, int) IllegalArgumentException IllegalStateException",
        "int undo(int) IllegalArgumentException",
        "int safe()",
        "int moves()",
        "int moveAt(int) IndexOutOfBoundsException",
        "int card(int, int) IllegalArgumentException",
        "int told(int) IllegalArgumentException",
        "int search(int) IllegalArgumentException",
        "int known(int) IllegalArgumentException",
        "int hint()",
        "int odds(int, int, int, int) IllegalArgumentException",
        "Patiencery()",
        "static int NONE", "static int BY_SUIT", "static int BY_COLOUR", "static int BY_RANK", "static int ANY_CARD",
        "static int HIGHEST", "static int NO_CARD", "static int LOST", "static int UNKNOWN",
    };

    private static int wrong = 0;

    private static void right(boolean is, String what) {
        if (!is) {
            wrong++;
            System.out.println("FaceTest: " + what);
        }
    }

    private static String joined(Class<?>[] types) {
        StringBuilder text = new StringBuilder();
        for (Class<?> type : types) {
            text.append(text.length() == 0 ? "" : ", ").append(type.getSimpleName());
        }
        return text.toString();
    }

    private static Set<String> face() {
        Set<String> face = new TreeSet<>();
        for (Method m : Patiencery.class.getDeclaredMethods()) {
            if (!Modifier.isPrivate(m.getModifiers())) {
                StringBuilder text = new StringBuilder();
                text.append(Modifier.isPublic(m.getModifiers()) ? "" : "not public ");
                text.append(Modifier.isStatic(m.getModifiers()) ? "static " : "");
                text.append(m.getReturnType().getSimpleName()).append(' ').append(m.getName());
                text.append('(').append(joined(m.getParameterTypes())).append(')');
                for (Class<?> thrown : m.getExceptionTypes()) {
                    text.append(' ').append(thrown.getSimpleName());
                }
                face.add(text.toString());
            }
        }
        for (Constructor<?> c : Patiencery.class.getDeclaredConstructors()) {
            face.add((Modifier.isPublic(c.getModifiers()) ? "" : "not public ") + "Patiencery(" + joined(c.getParameterTypes()) + ")");
        }
        for (Field f : Patiencery.class.getDeclaredFields()) {
            if (!Modifier.isPrivate(f.getModifiers())) {
                boolean constant = Modifier.isPublic(f.getModifiers()) && Modifier.isFinal(f.getModifiers());
                face.add((constant ? "" : "no constant ") + (Modifier.isStatic(f.getModifiers()) ? "static " : "")
                    + f.getType().getSimpleName() + " " + f.getName());
            }
        }
        return face;
    }

    private static void privateNames() {
        Set<String> names = new TreeSet<>();
        for (Method m : Patiencery.class.getDeclaredMethods()) {
            if (Modifier.isPublic(m.getModifiers())) {
                names.add(m.getName());
            }
        }
        Class<?>[] inside = Patiencery.class.getDeclaredClasses();
        right(inside.length <= 12, "more than 12 classes inside");
        for (Class<?> c : inside) {
            right(Modifier.isStatic(c.getModifiers()) && !Modifier.isPublic(c.getModifiers())
                && !Modifier.isProtected(c.getModifiers()), c + " is not static, or to be seen");
            for (Method m : c.getDeclaredMethods()) {
                right(!names.contains(m.getName()), m + " bears the name of a public one");
            }
            right(Arrays.stream(c.getDeclaredFields()).filter(f -> !Modifier.isStatic(f.getModifiers())).count() <= 20,
                c + " has more than 20 fields");
        }
        for (Method m : Patiencery.class.getDeclaredMethods()) {
            right(Modifier.isPublic(m.getModifiers()) || !names.contains(m.getName()), m + " bears a public name");
            right(m.getParameterCount() <= 7, m + " takes more than seven parameters");
        }
    }

    private static void source() throws java.io.IOException {
        String text = Files.readString(Path.of("src/main/java/Patiencery.java"));
        for (char c : text.toCharArray()) {
            right(c < 128, "a sign above 127: " + c);
        }
        String code = text.replaceAll("(?s)/\\*.*?\\*/", "").replaceAll("//[^\n]*", "").replaceAll("\"[^\"\n]*\"", "\"\"");
        String[] never = {"->", "::", "\\bcatch\\b", "\\bfinally\\b", "\\btry\\b", "\\bsynchronized\\b", "\\bassert\\b",
            "\\bpackage\\b", "\\bdouble\\b", "\\bfloat\\b", "\\bString\\b", "\\bMath\\.\\w*Exact\\b", "\\bequals\\b",
            "\\bhashCode\\b", "\\btoString\\b", "\\bprotected\\b", "\\bSystem\\.(?!arraycopy\\b)", "\\bRandom\\b",
            "\\bThread\\b", "\\bvar\\b", "@", "\\bstatic\\s*\\{", "\\bjava\\.(?!util\\.Arrays;)"};
        for (String word : never) {
            Matcher m = Pattern.compile(word).matcher(code);
            right(!m.find(), "the source holds " + word);
        }
        Matcher made = Pattern.compile("\\bnew\\s+(\\w+)").matcher(code);
        Set<String> known = Set.of("Rules", "Table", "Shelf", "Searcher", "Drawing", "int", "long",
            "IllegalArgumentException", "IllegalStateException", "IndexOutOfBoundsException");
        while (made.find()) {
            right(known.contains(made.group(1)), "the source makes a " + made.group(1));
        }
        Matcher fixed = Pattern.compile("\\bstatic\\s+(?!final\\b)\\w+(\\[\\])?\\s+\\w+\\s*[=;,]").matcher(code);
        right(!fixed.find(), "a static field that is not final");
    }

    public static void main(String[] args) throws java.io.IOException {
        right(Modifier.isPublic(Patiencery.class.getModifiers()) && Modifier.isFinal(Patiencery.class.getModifiers()),
            "Patiencery is public and final");
        right(Patiencery.class.getPackageName().isEmpty(), "Patiencery has no package");
        Set<String> due = new TreeSet<>(Arrays.asList(FACE));
        Set<String> got = face();
        right(got.equals(due), "the face is " + got);
        privateNames();
        source();
        System.out.println("FaceTest: " + (wrong == 0 ? "the face is as told" : wrong + " wrong"));
        if (wrong != 0) {
            System.exit(1);
        }
    }
}
