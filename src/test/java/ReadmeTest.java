import java.lang.reflect.Method;
import java.lang.reflect.Modifier;
import java.nio.file.Files;
import java.nio.file.Path;
import java.util.Set;
import java.util.TreeSet;
import java.util.regex.Matcher;
import java.util.regex.Pattern;

/** The example in README.md: each line is called and must answer what is written behind it. */
public final class ReadmeTest {
    private static final Pattern LINE = Pattern.compile("desk\\.(\\w+)\\(([^)]*)\\);\\s*// (-?\\w+).*");

    private static int wrong = 0;

    public static void main(String[] args) throws Exception {
        CharacterDesk desk = new CharacterDesk();
        Set<String> shown = new TreeSet<>();
        for (String line : Files.readAllLines(Path.of("README.md"))) {
            if (line.startsWith("desk.")) {
                shown.add(check(desk, line));
            }
        }
        // A README without its example, or with half of it, must not pass for a right one.
        for (Method method : CharacterDesk.class.getDeclaredMethods()) {
            if (Modifier.isPublic(method.getModifiers()) && !shown.contains(method.getName())) {
                fault("README.md shows no call of " + method.getName());
            }
        }
        System.out.println(wrong == 0 ? "the example is as due" : wrong + " faults in the example");
        if (wrong != 0) {
            System.exit(1);
        }
    }

    private static void fault(String what) {
        wrong++;
        System.out.println(what);
    }

    /** Answers the name of the method that the line calls. */
    private static String check(CharacterDesk desk, String line) throws Exception {
        Matcher matcher = LINE.matcher(line);
        if (!matcher.matches()) {
            fault("not a call with its answer: " + line);
            return "";
        }
        String name = matcher.group(1);
        String got = String.valueOf(call(desk, name, matcher.group(2)));
        if (!got.equals(matcher.group(3))) {
            fault(line + " answered " + got);
        }
        return name;
    }

    private static Object call(CharacterDesk desk, String name, String list) throws Exception {
        String[] words = list.isEmpty() ? new String[0] : list.split(", ");
        Class<?>[] types = new Class<?>[words.length];
        Object[] values = new Object[words.length];
        for (int i = 0; i < words.length; i++) {
            types[i] = int.class;
            values[i] = Integer.valueOf(words[i]);
        }
        return CharacterDesk.class.getMethod(name, types).invoke(desk, values);
    }
}
