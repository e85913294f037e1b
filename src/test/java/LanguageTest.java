import java.io.IOException;
import java.nio.file.Files;
import java.nio.file.Path;
import java.util.List;

/** The program's text keeps to ../shared/LANGUAGE.md, and texts that do not are found out. */
final class LanguageTest {
    private static final Path PROGRAM = Path.of("src", "main", "java", "PassPipeline.java");
    private static final Check CHECK = new Check("LanguageTest");

    public static void main(String[] args) throws IOException {
        List<String> faults = Language.faultsOf(Files.readString(PROGRAM));
        faults.forEach(System.out::println);
        CHECK.due("faults of " + PROGRAM, 0, faults.size());
        dueFault(0, inside("private final int[] row = new int[8]; public PassPipeline() { }"
                + " public int f(int x) { for (int i = 0; i < 8; i++) { row[i] = x == 0 ? 0 : 7 / x; } return g(1); }"
                + " private int g(int x) { if (x < 0) { throw new IllegalStateException(\"below\"); } return x; }"
                + " private static final class Own { final int x; Own(int x) { this.x = x; } }"));
        classesAndTypes();
        libraryAndObjects();
        exceptions();
        depthAndLoops();
        CHECK.end();
    }

    private static void classesAndTypes() {
        dueFault(1, "package p; public final class PassPipeline { }");
        dueFault(1, "public class PassPipeline { }");
        dueFault(1, "public final class PassPipeline { } class Other { }");
        dueFault(1, inside("private final class Inner { }"));
        dueFault(1, inside("public static final class Seen { }"));
        dueFault(2, inside("private Runnable r(int x) { return () -> r(x); }"));
        dueFault(2, inside("private Runnable r() { return this::r; }"));
        dueFault(3, inside("private final int[][] table = new int[2][2];"));
        dueFault(3, inside("private final Object[] all = new Object[2];"));
        dueFault(3, inside("private static final String TEXT = \"\u0416\";"));
        dueFault(5, inside("private static int x = 0;"));
        dueFault(5, inside("private static final int[] ROW = new int[8];"));
        dueFault(5, inside("private static final int X; static { X = 1; }"));
        dueFault(10, inside("private static final String TEXT = \"a\"; private boolean f(int x) {"
                + " return (TEXT + x).isEmpty(); }"));
    }

    private static void libraryAndObjects() {
        dueFault(4, "import java.util.HashMap; public final class PassPipeline { }");
        dueFault(4, inside("private long f() { return System.nanoTime(); }"));
        dueFault(4, inside("private int f(int x) { return Math.addExact(x, x); }"));
        dueFault(4, inside("private int f() { return hashCode(); }"));
        dueFault(12, inside("private int f() { int[] row = new int[8]; return row[0]; }"));
        dueFault(12, inside("private boolean f() { return new Own() == null; } private static final class Own { }"));
        dueFault(12, inside("private int f(Iterable<Integer> all) { for (int x : all) { return x; } return 0; }"));
    }

    private static void exceptions() {
        dueFault(6, inside("private void f() { throw new Error(); }"));
        dueFault(6, inside("private void f(String text) { throw new RuntimeException(text); }"));
        dueFault(6, inside("private void f(RuntimeException e) { throw e; }"));
        dueFault(6, inside("public PassPipeline() { throw new IllegalStateException(); }"));
        dueFault(6, inside("private int f(int x) { try { return f(x - 1); } finally { x++; } }"));
        dueFault(6, inside("private int f(int x) { synchronized (this) { return x; } }"));
        dueFault(6, inside("private int f(int x) { assert x > 0; return x; }"));
        dueFault(7, inside("private int f(int x) { return 7 / x; }"));
        dueFault(7, inside("private int f(int x, int y) { return x == 0 ? 0 : x % y; }"));
    }

    private static void depthAndLoops() {
        dueFault(8, inside("private int f(int x) { return x > 0 ? f(x - 1) : 0; }"));
        dueFault(8, inside("private int f(int x) { return g(x); } private int g(int x) { return f(x); }"));
        dueFault(9, inside("private void f() { while (true) { } }"));
        dueFault(9, inside("private void f(boolean x) { do { } while (x); }"));
        dueFault(9, inside("private void f() { for (;;) { } }"));
        dueFault(9, inside("private void f(boolean x) { for (int i = 0; x; i++) { } }"));
        dueFault(9, inside("private void f() { for (int i = 0; i < 8; i++) { i = 0; } }"));
        dueFault(9, inside("private void f() { for (int i = 0; i < 8; i++) { i--; } }"));
        dueFault(11, inside("private void f(int a, int b, int c, int d, int e, int g, int h, int i) { }"));
        dueFault(11, inside("private void f() {" + "\n;".repeat(60) + "\n}"));
        dueFault(11, inside(many(13, "private static final class C# { }")));
        dueFault(11, inside(many(21, "private int f# = 0;")));
        dueFault(11, inside(many(8, "private int f#(int x) { return f#_(x); }") + "private int f9(int x) { return x; }"));
    }

    private static String inside(String members) {
        return "public final class PassPipeline { " + members + " }";
    }

    /** # stands for 1, 2, .., and #_ for the next of these. */
    private static String many(int count, String member) {
        StringBuilder all = new StringBuilder();
        for (int i = 1; i <= count; i++) {
            all.append(member.replace("#_", Integer.toString(i + 1)).replace("#", Integer.toString(i)));
        }
        return all.toString();
    }

    /** Rule 0 stands for no fault. */
    private static void dueFault(int rule, String source) {
        List<String> faults = Language.faultsOf(source);
        boolean found = faults.stream().anyMatch(fault -> fault.startsWith("rule " + rule + ","));
        boolean compiles = faults.stream().noneMatch(fault -> fault.startsWith("javac:"));
        CHECK.due(() -> "rule " + rule + " " + faults + " in " + source, 1,
                compiles && (rule == 0 ? faults.isEmpty() : found) ? 1 : 0);
    }
}
