import java.util.function.LongSupplier;

/** Many runs of calls on the program and on the model side by side. */
final class ModelTest {
    private static final int RUNS = 20000;
    /** What an object answers later is free. */
    private static final int CALLS = 512;

    private final Check check;
    private final int number;
    private final Programs programs;
    private final PassPipeline program = new PassPipeline();
    private final Model model = new Model();
    private final StringBuilder told = new StringBuilder();
    private int calls = 0;

    private ModelTest(Check check, int number) {
        this.check = check;
        this.number = number;
        this.programs = new Programs(number);
    }

    public static void main(String[] args) {
        Check check = new Check("ModelTest");
        for (int number = 0; number < RUNS; number++) {
            new ModelTest(check, number).goThrough();
        }
        check.end();
    }

    private void goThrough() {
        boolean wild = programs.pick(10) == 0;
        while (calls < CALLS) {
            write(wild && programs.pick(2) == 0 ? programs.wild() : programs.whole());
            same("take()", program::take, model::take);
            int turns = 1 + programs.pick(8);
            for (int turn = 0; turn < turns; turn++) {
                change(wild);
                if (programs.pick(3) == 0) {
                    runBoth();
                }
            }
            lookAtAll(true);
            lookAtAll(wild);
            runBoth();
        }
    }

    private void same(String call, LongSupplier one, LongSupplier other) {
        if (calls >= CALLS) {
            return;
        }
        calls++;
        told.append(call).append(' ');
        check.due(() -> "run " + number + ": " + told, Check.answer(other), Check.answer(one));
    }

    private void same(String call, Runnable one, Runnable other) {
        same(call, () -> done(one), () -> done(other));
    }

    private static long done(Runnable call) {
        call.run();
        return 0;
    }

    private void write(int[][] rows) {
        for (int[] row : rows) {
            same("instruction(" + row[0] + ", " + row[1] + ", " + row[2] + ", " + row[3] + ")",
                    () -> program.instruction(row[0], row[1], row[2], row[3]),
                    () -> model.instruction(row[0], row[1], row[2], row[3]));
        }
    }

    private void change(boolean wild) {
        int choice = programs.pick(wild ? 14 : 11);
        if (choice < 8) {
            pass(choice % 4);
        } else if (choice == 8) {
            allocate(2 + programs.pick(7));
        } else if (choice == 9) {
            poke(programs.pick(8), programs.number());
        } else if (choice == 10) {
            same("restore()", program::restore, model::restore);
        } else {
            pass(programs.pick(7) - 2);
            allocate(programs.pick(12) - 1);
            poke(programs.pick(12) - 2, 5);
        }
    }

    private void pass(int pass) {
        same("pass(" + pass + ")", () -> program.pass(pass), () -> model.pass(pass));
    }

    private void allocate(int k) {
        same("allocate(" + k + ")", () -> program.allocate(k), () -> model.allocate(k));
    }

    private void poke(int cell, int value) {
        same("poke(" + cell + ", " + value + ")", () -> program.poke(cell, value), () -> model.poke(cell, value));
    }

    private void lookAtAll(boolean present) {
        same("length(" + present + ")", () -> program.length(present), () -> model.length(present));
        for (int i = 0; i < model.length(present); i++) {
            for (int what = 0; what < 4; what++) {
                look(present, i, what);
            }
        }
        look(present, model.length(present), programs.pick(8) - 2);
        look(present, -1, programs.pick(8) - 2);
        for (int r = 0; r < 8; r++) {
            home(r);
        }
        home(programs.pick(2) * 9 - 1);
    }

    private void look(boolean present, int i, int what) {
        same("look(" + present + ", " + i + ", " + what + ")",
                () -> program.look(present, i, what), () -> model.look(present, i, what));
    }

    private void home(int register) {
        same("home(" + register + ")", () -> program.home(register), () -> model.home(register));
    }

    private void runBoth() {
        int x = programs.number();
        int y = programs.number();
        for (int which = 0; which < 2; which++) {
            boolean present = which == 1;
            same("run(" + present + ", " + x + ", " + y + ")",
                    () -> program.run(present, x, y), () -> model.run(present, x, y));
            same("value()", program::value, model::value);
            same("steps()", program::steps, model::steps);
            for (int i = 0; i < 3; i++) {
                int cell = programs.pick(10) - 1;
                same("cell(" + cell + ")", () -> program.cell(cell), () -> model.cell(cell));
                int k = i == 0 ? programs.pick(18) - 1 : programs.pick(3);
                same("traced(" + k + ")", () -> program.traced(k), () -> model.traced(k));
            }
        }
    }
}
