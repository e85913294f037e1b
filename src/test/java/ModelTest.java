/**
 * Many runs of calls, the same ones each time, on the program and on the model side by side; and the document's
 * first sentence: original and present do the same as long as neither is spent.
 */
final class ModelTest {
    private static final int RUNS = 6000;
    private static final int SPENT = 3;

    private final Check check;
    private final int run;
    private final PassPipeline program = new PassPipeline();
    private final Model model = new Model();
    private final StringBuilder calls = new StringBuilder();
    private long seed;

    private ModelTest(Check check, int run) {
        this.check = check;
        this.run = run;
        this.seed = run * 7919L + 17;
    }

    public static void main(String[] args) {
        Check check = new Check("ModelTest");
        for (int run = 0; run < RUNS; run++) {
            new ModelTest(check, run).goThrough();
        }
        check.end();
    }

    private int pick(int bound) {
        seed = seed * 6364136223846793005L + 1442695040888963407L;
        return (int) ((seed >>> 33) % bound);
    }

    private void goThrough() {
        boolean wild = pick(10) == 0;
        int programs = 1 + pick(3);
        for (int p = 0; p < programs; p++) {
            write(wild);
            same("take()", program::take, model::take);
            int turns = 1 + pick(7);
            for (int turn = 0; turn < turns; turn++) {
                change(wild);
                compareAll();
            }
            doTheSame();
        }
    }

    private void same(String call, java.util.function.LongSupplier one, java.util.function.LongSupplier other) {
        calls.append(call).append(' ');
        check.due("run " + run + ": " + calls, Check.answer(other), Check.answer(one));
    }

    private void same(int kind, int d, int a, int b) {
        same("instruction(" + kind + ", " + d + ", " + a + ", " + b + ")",
                () -> program.instruction(kind, d, a, b), () -> model.instruction(kind, d, a, b));
    }

    private void write(boolean wild) {
        int size = 1 + pick(wild ? 27 : 24);
        int registers = 2 + pick(7);
        int jumps = pick(3);
        for (int i = 0; i < size - 1; i++) {
            writeOne(wild, size, registers, jumps);
        }
        if (wild && pick(3) == 0) {
            same(pick(14), pick(24), pick(8), pick(8));
        } else if (pick(4) == 0) {
            same(9, pick(size), pick(9), pick(9));
        } else {
            same(12, pick(30), pick(registers), pick(30));
        }
    }

    private void writeOne(boolean wild, int size, int registers, int jumps) {
        if (wild) {
            same(pick(16) - 1, pick(26) - 1, pick(10) - 1, pick(10) - 1);
            return;
        }
        int kind = pick(13);
        if (pick(4) == 0) {
            kind = 1 + pick(5);
        }
        if (kind == 12 && pick(2) == 0 || kind >= 9 && kind <= 10 && pick(3) > jumps) {
            kind = pick(4);
        }
        int d = kind == 9 || kind == 10 ? pick(size) : pick(registers);
        int a = kind == 1 ? pick(5) - 1 : pick(registers);
        same(kind, d, a, pick(registers));
    }

    private void change(boolean wild) {
        int choice = pick(wild ? 14 : 10);
        if (choice < 8) {
            int pass = choice % 4;
            same("pass(" + pass + ")", () -> program.pass(pass), () -> model.pass(pass));
        } else if (choice == 8) {
            int k = 2 + pick(7);
            same("allocate(" + k + ")", () -> program.allocate(k), () -> model.allocate(k));
        } else if (choice == 9) {
            int cell = pick(8);
            int value = pick(12) - 2;
            same("poke(" + cell + ", " + value + ")", () -> poked(cell, value), () -> modelPoked(cell, value));
        } else if (choice == 10) {
            same("restore()", this::restored, this::modelRestored);
        } else {
            int number = pick(12) - 2;
            same("pass(" + number + ")", () -> program.pass(number), () -> model.pass(number));
            same("allocate(" + number + ")", () -> program.allocate(number), () -> model.allocate(number));
            same("poke(" + number + ")", () -> poked(number, 5), () -> modelPoked(number, 5));
        }
    }

    private long poked(int cell, int value) {
        program.poke(cell, value);
        return 0;
    }

    private long modelPoked(int cell, int value) {
        model.poke(cell, value);
        return 0;
    }

    private long restored() {
        program.restore();
        return 0;
    }

    private long modelRestored() {
        model.restore();
        return 0;
    }

    private void compareAll() {
        for (int which = 0; which < 2; which++) {
            boolean present = which == 1;
            same("length", () -> program.length(present), () -> model.length(present));
            for (int i = -1; i <= model.length(present); i++) {
                for (int what = -1; what <= 4; what++) {
                    int at = i;
                    int part = what;
                    quietly("look(" + present + ", " + i + ", " + what + ")",
                            () -> program.look(present, at, part), () -> model.look(present, at, part));
                }
            }
        }
        for (int r = -1; r <= 8; r++) {
            int register = r;
            quietly("home(" + r + ")", () -> program.home(register), () -> model.home(register));
        }
        for (int which = 0; which < 2; which++) {
            boolean present = which == 1;
            int x = pick(5) - 1;
            int y = pick(40) == 0 ? Integer.MIN_VALUE : pick(5) - 1;
            same("run(" + present + ", " + x + ", " + y + ")",
                    () -> program.run(present, x, y), () -> model.run(present, x, y));
            compareRun();
        }
    }

    private void quietly(String call, java.util.function.LongSupplier one, java.util.function.LongSupplier other) {
        long got = Check.answer(one);
        long want = Check.answer(other);
        check.due(got == want ? "" : "run " + run + ": " + calls + call, want, got);
    }

    private void compareRun() {
        quietly("value()", program::value, model::value);
        quietly("steps()", program::steps, model::steps);
        for (int i = -1; i <= 8; i++) {
            int cell = i;
            quietly("cell(" + i + ")", () -> program.cell(cell), () -> model.cell(cell));
        }
        for (int i = -1; i <= 16; i++) {
            int k = i;
            quietly("traced(" + i + ")", () -> program.traced(k), () -> model.traced(k));
        }
    }

    private void doTheSame() {
        if (program.length(false) == 0) {
            return;
        }
        for (int x = -1; x <= 2; x++) {
            for (int y = -1; y <= 2; y++) {
                long originalEnding = program.run(false, x, y);
                String originalDid = whatItDid();
                long presentEnding = program.run(true, x, y);
                if (originalEnding != SPENT && presentEnding != SPENT) {
                    String where = "run " + run + ": " + calls + "with " + x + ", " + y;
                    check.due(where + " ending", originalEnding, presentEnding);
                    check.due(where + " doings", 1, originalDid.equals(whatItDid()) ? 1 : 0);
                }
            }
        }
    }

    private String whatItDid() {
        StringBuilder all = new StringBuilder().append(Check.answer(program::value));
        for (int i = 0; i < 8; i++) {
            all.append(' ').append(program.cell(i));
        }
        for (int i = 0; i < 16; i++) {
            int k = i;
            all.append(' ').append(Check.answer(() -> program.traced(k)));
        }
        return all.toString();
    }
}
