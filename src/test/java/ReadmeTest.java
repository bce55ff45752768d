import java.io.IOException;
import java.lang.reflect.Method;
import java.lang.reflect.Modifier;
import java.nio.file.Files;
import java.nio.file.Path;
import java.util.regex.Matcher;
import java.util.regex.Pattern;

/** "README.md says how to use the class": its examples answer what it says, and it tells every call of the face. */
public final class ReadmeTest {
    private static final Check check = new Check("ReadmeTest");
    private static final Pattern BLOCK = Pattern.compile("(?s)```java\n(.*?)```");
    private static final Pattern CALL = Pattern.compile("x\\.(\\w+)\\(([^)]*)\\); *// (-?\\d+): .+");
    private static final Pattern TYPED = Pattern.compile("for \\(char c : \"(.*)\"\\.toCharArray\\(\\)\\) x\\.type\\(c\\);");
    private static final String MADE = "GuestStaff x = new GuestStaff();";

    public static void main(String[] args) throws ReflectiveOperationException, IOException {
        String page = Files.readString(Path.of("README.md"));
        int blocks = 0;
        for (Matcher m = BLOCK.matcher(page); m.find(); blocks++) {
            run(m.group(1).split("\n"));
        }
        check.holds("there are examples", blocks > 0);
        everyCall(page);
        check.finish();
    }

    private static void run(String[] lines) throws ReflectiveOperationException {
        check.holds("an example makes its own object", lines[0].equals(MADE));
        GuestStaff x = new GuestStaff();
        for (int i = 1; i < lines.length; i++) {
            Matcher call = CALL.matcher(lines[i]);
            Matcher typed = TYPED.matcher(lines[i]);
            if (call.matches()) {
                check.due(lines[i], answer(x, call.group(1), call.group(2)), Long.parseLong(call.group(3)));
            } else if (typed.matches()) {
                typed.group(1).chars().forEach(x::type);
            } else {
                check.holds("a line of an example is a call with its answer: " + lines[i], false);
            }
        }
    }

    private static long answer(GuestStaff x, String name, String told) throws ReflectiveOperationException {
        String[] words = told.isEmpty() ? new String[0] : told.split(", ");
        Object[] numbers = new Object[words.length];
        for (int i = 0; i < words.length; i++) {
            numbers[i] = number(words[i]);
        }
        for (Method m : GuestStaff.class.getMethods()) {
            if (m.getName().equals(name) && m.getParameterCount() == numbers.length) {
                return ((Number) m.invoke(x, numbers)).longValue();
            }
        }
        throw new NoSuchMethodException(name + " of " + numbers.length);
    }

    private static int number(String word) {
        if (word.equals("GuestStaff.NONE")) {
            return GuestStaff.NONE;
        }
        return word.startsWith("0b") ? Integer.parseInt(word.substring(2), 2) : Integer.parseInt(word);
    }

    private static void everyCall(String page) {
        for (Method m : GuestStaff.class.getDeclaredMethods()) {
            if (Modifier.isPublic(m.getModifiers())) {
                String numbers = "\\w+" + ", \\w+".repeat(Math.max(m.getParameterCount() - 1, 0));
                String row = "\n\\| `" + m.getName() + "\\(" + (m.getParameterCount() == 0 ? "" : numbers) + "\\)` \\| .+ \\|";
                check.holds("README.md tells " + m.getName(), Pattern.compile(row).matcher(page).find());
            }
        }
    }
}
