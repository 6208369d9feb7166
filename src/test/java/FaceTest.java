import java.lang.reflect.Field;
import java.lang.reflect.Method;
import java.lang.reflect.Modifier;
import java.util.Arrays;
import java.util.Set;
import java.util.TreeSet;

/** The public face of the document, and the rules of LANGUAGE.md that the compiled class shows. */
public final class FaceTest {
    private static final Set<String> FACE = new TreeSet<>(Arrays.asList(
        "int choose[int]", "int shape[]", "int at[int]", "int character[int, int]", "int degree[int]",
        "int count[int]", "int partition[int, int]", "int turned[int]", "int permutations[int]",
        "int squares[int]", "boolean vanishes[int, int]", "int greatest[int]", "int support[int]"));
    private static int wrong = 0;

    public static void main(String[] args) {
        Class<?> desk = CharacterDesk.class;
        due(desk.getModifiers() == (Modifier.PUBLIC | Modifier.FINAL), "the class is public and final");
        due(desk.getDeclaredClasses().length == 0, "no nested class");
        due(desk.getDeclaredConstructors().length == 1, "one constructor");
        due(desk.getConstructors().length == 1, "the constructor is public");
        due(desk.getConstructors()[0].getParameterCount() == 0, "the constructor takes nothing");
        checkMethods(desk);
        checkFields(desk);
        System.out.println(wrong == 0 ? "the face is as due" : wrong + " faults in the face");
        if (wrong != 0) {
            System.exit(1);
        }
    }

    private static void due(boolean holds, String what) {
        if (!holds) {
            wrong++;
            System.out.println("does not hold: " + what);
        }
    }

    private static void checkMethods(Class<?> desk) {
        Set<String> face = new TreeSet<>();
        Set<String> publicNames = new TreeSet<>();
        for (Method method : desk.getDeclaredMethods()) {
            if (Modifier.isPublic(method.getModifiers())) {
                String types = Arrays.toString(method.getParameterTypes());
                face.add(method.getReturnType() + " " + method.getName() + types);
                publicNames.add(method.getName());
            }
        }
        due(face.equals(FACE), "the public methods are those of the document, not " + face);
        for (Method method : desk.getDeclaredMethods()) {
            String name = method.getName();
            if (!Modifier.isPublic(method.getModifiers())) {
                due(Modifier.isPrivate(method.getModifiers()), name + " is private");
                due(!publicNames.contains(name), name + " is not the name of a public method");
            }
            due(method.getParameterCount() <= 7, name + " takes at most seven parameters");
        }
    }

    private static void checkFields(Class<?> desk) {
        for (Field field : desk.getDeclaredFields()) {
            int modifiers = field.getModifiers();
            String name = field.getName();
            if (name.equals("BAD")) {
                due(modifiers == (Modifier.PUBLIC | Modifier.STATIC | Modifier.FINAL), "BAD is a public constant");
                due(field.getType() == int.class, "BAD is an int");
            } else {
                due(Modifier.isPrivate(modifiers), name + " is private");
            }
            if (Modifier.isStatic(modifiers)) {
                due(Modifier.isFinal(modifiers), name + " is a constant");
                due(field.getType() == int.class || field.getType() == long.class, name + " is a whole number");
            }
        }
    }
}
