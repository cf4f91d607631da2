import java.io.IOException;
import java.lang.reflect.Constructor;
import java.lang.reflect.Field;
import java.lang.reflect.Method;
import java.lang.reflect.Modifier;
import java.nio.file.Files;
import java.nio.file.Path;
import java.util.Arrays;
import java.util.Set;
import java.util.TreeSet;

/** The public face is the document's, and the shape of the class keeps to LANGUAGE.md. */
public final class FaceTest {
    private static final Path DOCUMENT = Path.of("../shared/DOC.md");
    private static final String[] FACE = {
        "public static final int BAD_ARG",
        "public static final int FULL",
        "public static final int NONE",
        "public TrajectoryCheck()",
        "public int TrajectoryCheck.node(int,int,int)",
        "public int TrajectoryCheck.connect(int,int)",
        "public int TrajectoryCheck.item(int,int,int,int,int)",
        "public int TrajectoryCheck.drop(int,int)",
        "public int TrajectoryCheck.nodes()",
        "public int TrajectoryCheck.value(int,int,int)",
        "public int TrajectoryCheck.definite(int,int)",
        "public int TrajectoryCheck.needs(int,int)",
        "public int TrajectoryCheck.fails()",
        "public int TrajectoryCheck.idle()",
        "public int TrajectoryCheck.first()",
        "public int TrajectoryCheck.failsOf(int)",
        "public int TrajectoryCheck.without(int)",
        "public int TrajectoryCheck.cone(int)",
    };

    public static void main(String[] args) throws IOException {
        faceOfTheDocument();
        constants();
        visibleMembers();
        shapeOfClass();
        shapeOfFields();
        shapeOfMethods();
        Due.end();
    }

    /** The list above is the document's code block. */
    private static void faceOfTheDocument() throws IOException {
        String block = Files.readString(DOCUMENT).split("```")[1];
        Set<String> shown = new TreeSet<>();
        for (String line : block.lines().map(String::strip).toList()) {
            if (line.startsWith("public ") && line.endsWith(";")) {
                shown.add(asReflectionTells(line));
            }
        }
        Set<String> listed = new TreeSet<>(Arrays.asList(FACE));
        holds("the document's face is " + listed + ", not " + shown, shown.equals(listed));
    }

    private static String asReflectionTells(String line) {
        String member = line.replaceFirst("( = -?[0-9]+)?;$", "");
        // The parameters of all methods are ints, so that their names are all that has to go.
        String unnamed = member.replaceAll("int \\w+(?=[,)])", "int").replace(", ", ",");
        boolean isMethod = unnamed.startsWith("public int ");
        return isMethod ? unnamed.replaceFirst("public int ", "public int TrajectoryCheck.") : unnamed;
    }

    private static void constants() {
        Due.due("BAD_ARG", TrajectoryCheck.BAD_ARG, -1);
        Due.due("FULL", TrajectoryCheck.FULL, -2);
        Due.due("NONE", TrajectoryCheck.NONE, -4);
    }

    private static void visibleMembers() {
        Set<String> found = new TreeSet<>();
        for (Field field : TrajectoryCheck.class.getDeclaredFields()) {
            if (!Modifier.isPrivate(field.getModifiers())) {
                found.add(field.toString().replace("TrajectoryCheck.", ""));
            }
        }
        for (Constructor<?> constructor : TrajectoryCheck.class.getDeclaredConstructors()) {
            found.add(constructor.toString());
        }
        for (Method method : TrajectoryCheck.class.getDeclaredMethods()) {
            if (!Modifier.isPrivate(method.getModifiers())) {
                found.add(method.toString());
            }
        }
        Set<String> wanted = new TreeSet<>(Arrays.asList(FACE));
        for (String member : wanted) {
            holds("the face has " + member, found.contains(member));
        }
        for (String member : found) {
            holds("the document has " + member, wanted.contains(member));
        }
    }

    private static void shapeOfClass() {
        Class<?> c = TrajectoryCheck.class;
        holds("the class is public", Modifier.isPublic(c.getModifiers()));
        holds("the class is final", Modifier.isFinal(c.getModifiers()));
        holds("nothing is extended", c.getSuperclass() == Object.class);
        Due.due("interfaces", c.getInterfaces().length, 0);
        Due.due("nested classes", c.getDeclaredClasses().length, 0);
    }

    private static void shapeOfFields() {
        int notConstant = 0;
        for (Field field : TrajectoryCheck.class.getDeclaredFields()) {
            Class<?> type = field.getType();
            int modifiers = field.getModifiers();
            if (Modifier.isStatic(modifiers)) {
                holds(field + " is a constant", Modifier.isFinal(modifiers) && (type == int.class || type == long.class));
            } else {
                notConstant++;
                holds(field + " is of whole numbers", isPlain(type) || type.isArray() && isPlain(type.getComponentType()));
            }
        }
        holds("at most forty fields", notConstant <= 40);
    }

    private static void shapeOfMethods() {
        Set<String> visible = new TreeSet<>();
        for (Method method : TrajectoryCheck.class.getDeclaredMethods()) {
            if (!Modifier.isPrivate(method.getModifiers())) {
                visible.add(method.getName());
            }
        }
        for (Method method : TrajectoryCheck.class.getDeclaredMethods()) {
            holds(method + " has at most seven parameters", method.getParameterCount() <= 7);
            holds(method + " answers no array", !method.getReturnType().isArray());
            if (Modifier.isPrivate(method.getModifiers())) {
                holds(method + " has a name of its own", !visible.contains(method.getName()));
            }
        }
    }

    private static boolean isPlain(Class<?> type) {
        return type.isPrimitive() && type != float.class && type != double.class;
    }

    private static void holds(String what, boolean so) {
        Due.due(what, so ? 1 : 0, 1);
    }
}
