import java.io.IOException;
import java.lang.reflect.Constructor;
import java.lang.reflect.Field;
import java.lang.reflect.Method;
import java.lang.reflect.Modifier;
import java.nio.file.Files;
import java.nio.file.Path;
import java.util.ArrayList;
import java.util.Arrays;
import java.util.List;
import java.util.Set;
import java.util.TreeSet;
import java.util.regex.Matcher;
import java.util.regex.Pattern;

/** The public face, no more and no less, and what of ../shared/LANGUAGE.md can be seen from the class and its text. */
public final class FaceTest {
    private static final Check check = new Check("FaceTest");
    private static final String SOURCE = "src/main/java/GuestStaff.java";
    private static final String[] FACE = {
        "int house()", "int guest(int, int, int)", "int duty(int, int)", "int type(int)", "int clear()", "int read()",
        "int hour(int)", "int undo()", "int of(int, int)", "int can(int, int)", "int work(int, int)", "int all(int)",
        "int least()", "int most(int)", "int lone()", "int rings(int)", "int smallest()", "int swap(int)",
        "int takeIn(int)", "int note(int, int, int, int, int)", "int forget()", "int wants(int)", "int is(int)",
        "int next(int)", "int tips(int, int)", "int moods(int)", "int hours(int, int)", "long part(int)",
        "int image(int)", "int from(int)", "int status(int)", "int count(int)", "long digest()"};

    public static void main(String[] args) throws IOException {
        methods();
        fieldsAndConstructor();
        classesInside();
        String text = bare(Files.readString(Path.of(SOURCE)));
        words(text);
        sizes(text);
        check.finish();
    }

    private static String faceOf(Method m) {
        List<String> types = new ArrayList<>();
        for (Class<?> type : m.getParameterTypes()) {
            types.add(type.getSimpleName());
        }
        return m.getReturnType().getSimpleName() + " " + m.getName() + "(" + String.join(", ", types) + ")";
    }

    private static void methods() {
        Set<String> found = new TreeSet<>();
        Set<String> names = new TreeSet<>();
        for (String face : FACE) {
            names.add(face.substring(face.indexOf(' ') + 1, face.indexOf('(')));
        }
        for (Method m : GuestStaff.class.getDeclaredMethods()) {
            if (Modifier.isPrivate(m.getModifiers())) {
                check.holds(m.getName() + " is no name of the face", !names.contains(m.getName()));
            } else {
                found.add(faceOf(m));
                check.holds(m.getName() + " is public and of objects",
                    Modifier.isPublic(m.getModifiers()) && !Modifier.isStatic(m.getModifiers()));
            }
        }
        check.holds("the methods are those of the document: " + found, found.equals(new TreeSet<>(Arrays.asList(FACE))));
    }

    private static void fieldsAndConstructor() {
        Set<String> open = new TreeSet<>();
        for (Field f : GuestStaff.class.getDeclaredFields()) {
            if (!Modifier.isPrivate(f.getModifiers())) {
                open.add(f.getName());
                check.due(f.getName(), f.getModifiers(), Modifier.PUBLIC | Modifier.STATIC | Modifier.FINAL);
                check.holds(f.getName() + " is an int", f.getType() == int.class);
            }
            check.holds(f.getName() + " is final, if it is static",
                !Modifier.isStatic(f.getModifiers()) || Modifier.isFinal(f.getModifiers()));
        }
        check.holds("the constants are those of the document: " + open,
            open.equals(new TreeSet<>(Arrays.asList("NONE", "BAD", "NO", "FULL"))));
        Constructor<?>[] made = GuestStaff.class.getDeclaredConstructors();
        check.due("constructors", made.length, 1);
        check.due("its parameters", made[0].getParameterCount(), 0);
        check.holds("it is public", Modifier.isPublic(made[0].getModifiers()));
        check.due("the class", GuestStaff.class.getModifiers(), Modifier.PUBLIC | Modifier.FINAL);
        check.holds("it has no class above it", GuestStaff.class.getSuperclass() == Object.class);
    }

    private static void classesInside() {
        Class<?>[] inside = GuestStaff.class.getDeclaredClasses();
        check.holds("there are at most twelve classes", inside.length + 1 <= 12);
        for (Class<?> c : inside) {
            int m = c.getModifiers();
            check.holds(c.getName() + " is static and not open",
                Modifier.isStatic(m) && !Modifier.isPublic(m) && !Modifier.isProtected(m));
            int own = 0;
            for (Field f : c.getDeclaredFields()) {
                own += Modifier.isStatic(f.getModifiers()) ? 0 : 1;
                check.holds(f.getName() + " is final, if it is static",
                    !Modifier.isStatic(f.getModifiers()) || Modifier.isFinal(f.getModifiers()));
            }
            check.holds(c.getName() + " has at most twenty fields", own <= 20);
        }
    }

    /** The text without comments and without what stands in texts and signs. */
    private static String bare(String source) {
        return source.replaceAll("(?s)/\\*.*?\\*/", "").replaceAll("//[^\n]*", "")
            .replaceAll("\"[^\"\n]*\"", "\"\"").replaceAll("'[^'\n]*'", "0");
    }

    private static void words(String text) {
        String[] ruledOut = {"throw", "throws", "try", "catch", "synchronized", "assert", "import", "package", "double",
            "float", "System\\.(?!arraycopy)\\w+", "Thread", "Random", "\\w+Exact", "Object", "hashCode", "toString",
            "equals", "var", "native", "transient", "volatile"};
        for (String word : ruledOut) {
            check.holds("the word is not there: " + word, !Pattern.compile("\\b" + word + "\\b").matcher(text).find());
        }
        check.holds("there is no lambda", !text.contains("->"));
        check.holds("there is no method reference", !text.contains("::"));
        check.holds("there is no static block", !Pattern.compile("static\\s*\\{").matcher(text).find());
        check.holds("there is no annotation", !text.contains("@"));
    }

    /** A method begins by its head at four or eight blanks and ends by a lone brace at as many. */
    private static void sizes(String text) {
        Matcher m = Pattern.compile("\n( {4}(?: {4})?)(?=\\S)[\\w\\[\\] ]+\\(([^)]*)\\) \\{\n(?s:(.*?))\n\\1\\}").matcher(text);
        int methods = 0;
        for (; m.find(); methods++) {
            check.holds("short: " + m.group(0).trim().split("\n")[0], m.group(3).split("\n").length <= 60);
            check.holds("seven parameters at most: " + m.group(2), m.group(2).split(",").length <= 7);
        }
        check.holds("the methods are found: " + methods, methods > FACE.length);
    }
}
