import java.lang.reflect.Constructor;
import java.lang.reflect.Field;
import java.lang.reflect.Method;
import java.lang.reflect.Modifier;
import java.util.ArrayList;
import java.util.Arrays;
import java.util.List;
import java.util.Set;
import java.util.TreeSet;

/** The public face of the document, and what LANGUAGE.md says of members (rules 1, 5 and 11). */
final class FaceTest {
    private static final Set<String> FACE = new TreeSet<>(List.of(
            "int instruction(int, int, int, int) throws IllegalArgumentException IllegalStateException",
            "int take() throws IllegalArgumentException",
            "int pass(int) throws IllegalArgumentException IllegalStateException",
            "int allocate(int) throws IllegalArgumentException IllegalStateException",
            "int home(int) throws IllegalArgumentException NoSuchElementException",
            "void restore() throws IllegalStateException",
            "int length(boolean)",
            "int look(boolean, int, int) throws IllegalArgumentException NoSuchElementException",
            "void poke(int, int) throws IllegalArgumentException",
            "int run(boolean, int, int) throws IllegalStateException",
            "int value() throws NoSuchElementException",
            "int cell(int) throws IllegalArgumentException",
            "int traced(int) throws NoSuchElementException",
            "int steps()"));

    private static final Check CHECK = new Check("FaceTest");

    public static void main(String[] args) {
        CHECK.due("the class is public and final", Modifier.PUBLIC | Modifier.FINAL, PassPipeline.class.getModifiers());
        face();
        members();
        nested();
        CHECK.end();
    }

    private static void face() {
        Set<String> found = new TreeSet<>();
        for (Method m : PassPipeline.class.getDeclaredMethods()) {
            if (!Modifier.isPrivate(m.getModifiers())) {
                CHECK.due(m + " is public and no more", Modifier.PUBLIC, m.getModifiers());
                found.add(tell(m));
            }
        }
        CHECK.due("the methods " + found + " are those of the document " + FACE, 1, found.equals(FACE) ? 1 : 0);
        Constructor<?>[] constructors = PassPipeline.class.getDeclaredConstructors();
        CHECK.due("one constructor", 1, constructors.length);
        CHECK.due("a public one", Modifier.PUBLIC, constructors[0].getModifiers());
        CHECK.due("without parameters", 0, constructors[0].getParameterCount());
    }

    private static String tell(Method m) {
        List<String> parameters = new ArrayList<>();
        for (Class<?> type : m.getParameterTypes()) {
            parameters.add(type.getSimpleName());
        }
        Set<String> thrown = new TreeSet<>();
        for (Class<?> type : m.getExceptionTypes()) {
            thrown.add(type.getSimpleName());
        }
        String head = m.getReturnType().getSimpleName() + " " + m.getName() + "(" + String.join(", ", parameters) + ")";
        return thrown.isEmpty() ? head : head + " throws " + String.join(" ", thrown);
    }

    private static void members() {
        for (Field f : PassPipeline.class.getDeclaredFields()) {
            CHECK.due(f + " is private", 1, Modifier.isPrivate(f.getModifiers()) ? 1 : 0);
        }
        for (Class<?> type : allClasses()) {
            int own = 0;
            for (Field f : type.getDeclaredFields()) {
                boolean isStatic = Modifier.isStatic(f.getModifiers());
                own += isStatic ? 0 : 1;
                CHECK.due(f + " is final if it is static", 1, !isStatic || Modifier.isFinal(f.getModifiers()) ? 1 : 0);
            }
            CHECK.due(type + " has some twenty fields at most", 1, own <= 20 ? 1 : 0);
            for (Method m : type.getDeclaredMethods()) {
                CHECK.due(m + " has seven parameters at most", 1, m.getParameterCount() <= 7 ? 1 : 0);
                boolean bears = FACE.stream().anyMatch(face -> face.contains(" " + m.getName() + "("));
                boolean isFace = type == PassPipeline.class && Modifier.isPublic(m.getModifiers());
                CHECK.due(m + " bears no name of the face", 1, isFace || !bears ? 1 : 0);
            }
        }
    }

    private static void nested() {
        CHECK.due("some twelve classes at most", 1, allClasses().size() <= 12 ? 1 : 0);
        for (Class<?> type : PassPipeline.class.getDeclaredClasses()) {
            int modifiers = type.getModifiers();
            boolean hidden = !Modifier.isPublic(modifiers) && !Modifier.isProtected(modifiers);
            CHECK.due(type + " is hidden and static", 1, hidden && Modifier.isStatic(modifiers) ? 1 : 0);
        }
    }

    private static List<Class<?>> allClasses() {
        List<Class<?>> all = new ArrayList<>(Arrays.asList(PassPipeline.class.getDeclaredClasses()));
        all.add(PassPipeline.class);
        return all;
    }
}
