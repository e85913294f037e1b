/** What tests of the program have in common: names for its numbers, rows of instructions, and looks at programs. */
abstract class Tester {
    static final int NOTHING = 0;
    static final int CONST = 1;
    static final int MOVE = 2;
    static final int ADD = 3;
    static final int SUB = 4;
    static final int MUL = 5;
    static final int DIV = 6;
    static final int LOAD = 7;
    static final int STORE = 8;
    static final int JUMP = 9;
    static final int ZERO = 10;
    static final int CALL = 11;
    static final int RETURN = 12;
    static final int RELOAD = 13;
    static final int SPILL = 14;
    static final int FOLD = 0;
    static final int SHARE = 1;
    static final int DROP = 2;
    static final int PACK = 3;
    static final int MIN = Integer.MIN_VALUE;
    static final int MAX = Integer.MAX_VALUE;

    final Check check;

    Tester(String name) {
        check = new Check(name);
    }

    static int[] op(int kind, int... numbers) {
        int[] row = {kind, 0, 0, 0};
        System.arraycopy(numbers, 0, row, 1, numbers.length);
        return row;
    }

    /** For kinds that name a, or a and b, but no d. */
    static int[] plain(int kind, int a, int b) {
        return new int[] {kind, 0, a, b};
    }

    static int[] end(int a) {
        return plain(RETURN, a, 0);
    }

    static int[][] rows(int[]... rows) {
        return rows;
    }

    /** A new object, and some whose earlier programs, passes and runs must not be seen in what comes next. */
    static PassPipeline[] newAndUsed() {
        int[][] mixed = {op(CONST, 2, 9), op(CONST, 3, 5), op(ADD, 4, 0, 1), op(SUB, 5, 0, 1), op(MUL, 6, 0, 1),
            op(ZERO, 1, 0), op(CONST, 2, 9), op(MOVE, 7, 2), op(ZERO, 2, 1), op(LOAD, 0, 1), op(ADD, 4, 4, 5),
            op(ZERO, 3, 7), op(CONST, 2, 8), plain(STORE, 0, 6), op(CALL, 1, 5), op(ZERO, 1, 4), op(JUMP, 18),
            op(CONST, 3, 7), op(NOTHING), op(ZERO, 20, 3), op(CONST, 2, 9), op(ADD, 3, 0, 1), op(MOVE, 5, 2),
            op(JUMP, 2)};
        int[][] going = new int[24][];
        int[][] giving = new int[24][];
        for (int i = 0; i < 23; i++) {
            going[i] = op(ZERO, 1 + i % 3, i % 8);
            giving[i] = i % 2 == 0 ? op(MOVE, i % 8, i % 8) : op(ADD, i % 8, i / 8, 7 - i / 8);
        }
        going[23] = op(JUMP, 1);
        giving[23] = end(0);
        return new PassPipeline[] {new PassPipeline(), used(mixed), used(going), used(giving)};
    }

    private static PassPipeline used(int[]... rows) {
        PassPipeline x = taken(rows);
        x.poke(7, 0);
        x.run(false, 3, 4);
        x.allocate(4);
        x.run(true, 3, 4);
        x.restore();
        x.pass(FOLD);
        x.pass(SHARE);
        x.pass(DROP);
        x.restore();
        return x;
    }

    static PassPipeline taken(int[]... rows) {
        PassPipeline x = new PassPipeline();
        takeInto(x, rows);
        return x;
    }

    static void takeInto(PassPipeline x, int[]... rows) {
        write(x, rows);
        x.take();
    }

    static void write(PassPipeline x, int[]... rows) {
        for (int[] row : rows) {
            x.instruction(row[0], row[1], row[2], row[3]);
        }
    }

    void dueProgram(String test, PassPipeline x, boolean present, int[]... rows) {
        check.due(test + " length", rows.length, x.length(present));
        for (int i = 0; i < rows.length && i < x.length(present); i++) {
            for (int what = 0; what < 4; what++) {
                check.due(test + " look(" + present + ", " + i + ", " + what + ")",
                        rows[i][what], x.look(present, i, what));
            }
        }
    }

    void duePass(String test, int pass, int count, PassPipeline x, int[]... rows) {
        check.due(test + " pass(" + pass + ")", count, () -> x.pass(pass));
        dueProgram(test, x, true, rows);
    }

    /** A pass on a new program: what it answers, and what it makes of the program. */
    void duePass(String test, int pass, int[][] before, int count, int[]... after) {
        for (PassPipeline x : newAndUsed()) {
            takeInto(x, before);
            duePass(test, pass, count, x, after);
            dueProgram(test + ", the original", x, false, before);
        }
    }

    void dueNoChange(String test, int pass, int[]... rows) {
        duePass(test, pass, rows, 0, rows);
    }

    /** How a run of the original ends, and how many instructions it does. */
    void dueEnding(String test, int ending, int steps, PassPipeline x, int x0, int y0) {
        check.due(test + " run(false, " + x0 + ", " + y0 + ")", ending, () -> x.run(false, x0, y0));
        check.due(test + " steps()", steps, x.steps());
    }

    /** What the original returns. */
    void dueValue(String test, int due, PassPipeline x, int x0, int y0) {
        check.due(test + " run(false, " + x0 + ", " + y0 + ")", 0, () -> x.run(false, x0, y0));
        check.due(test + " value()", due, x::value);
    }

    void dueHomes(String test, PassPipeline x, int... homes) {
        for (int r = 0; r < 8; r++) {
            int register = r;
            check.due(test + " home(" + r + ")", homes[r], () -> x.home(register));
        }
    }
}
