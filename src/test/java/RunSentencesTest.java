/** The sentences under 'Terms' on registers, kinds, the draft and running, each by itself. */
final class RunSentencesTest extends Tester {
    private static final int[] EDGES = {MIN, -1, 8, 24, MAX};

    private RunSentencesTest() {
        super("RunSentencesTest");
    }

    public static void main(String[] args) {
        RunSentencesTest test = new RunSentencesTest();
        test.registersAndCells();
        test.kinds();
        test.running();
        test.check.end();
    }

    private void about(String sentence) {
        check.about("Terms", sentence);
    }

    private void registersAndCells() {
        registersHoldInts();
        memoryHasEightCells();
        aRowOfInstructions();
        numbersThatTheKindDoesNotName();
        whatRegistersHold();
    }

    private void registersHoldInts() {
        about("REGISTERS 0 .. 7 hold ints;");
        for (int r = 0; r < 8; r++) {
            dueValue("register " + r, MIN, taken(op(CONST, r, MIN), end(r)), 5, 6);
            dueValue("register " + r, MAX, taken(op(CONST, r, MAX), end(r)), 5, 6);
        }
        PassPipeline x = new PassPipeline();
        check.due("register -1", Check.ARGUMENT, () -> x.instruction(CONST, -1, 0, 0));
        check.due("register 8", Check.ARGUMENT, () -> x.instruction(CONST, 8, 0, 0));
        int[][] each = new int[14][];
        for (int r = 2; r < 8; r++) {
            each[r - 2] = op(CONST, r, 1 << r);
            each[r + 4] = op(ADD, 0, 0, r);
        }
        each[12] = op(ADD, 0, 0, 1);
        each[13] = end(0);
        dueValue("each register by itself", 255, taken(each), 1, 2);
    }

    private void memoryHasEightCells() {
        about("MEMORY has the CELLS 0 .. 7.");
        PassPipeline x = taken(plain(STORE, 0, 1), op(LOAD, 2, 0), end(2));
        for (int cell = 0; cell < 8; cell++) {
            dueValue("cell " + cell, MIN + cell, x, cell, MIN + cell);
            int held = cell;
            check.due("cell " + cell, MIN + cell, () -> x.cell(held));
        }
        dueEnding("cell -1", 2, 0, x, -1, 5);
        dueEnding("cell 8", 2, 0, x, 8, 5);
        check.due("cell(-1)", Check.ARGUMENT, () -> x.cell(-1));
        check.due("cell(8)", Check.ARGUMENT, () -> x.cell(8));
    }

    private void aRowOfInstructions() {
        about("A PROGRAM is a row of INSTRUCTIONS 0, 1, .., each with a KIND and the numbers d, a, b");
        PassPipeline x = new PassPipeline();
        int[][] rows = new int[24][];
        for (int i = 0; i < 24; i++) {
            int kind = ADD + i % 4;
            rows[i] = i == 23 ? op(JUMP, i) : op(kind, i % 8, (i + 3) % 8, (i + 5) % 8);
            int[] row = rows[i];
            check.due("instruction " + i, i, () -> x.instruction(row[0], row[1], row[2], row[3]));
        }
        check.due("take()", 24, x::take);
        dueProgram("the original", x, false, rows);
        dueProgram("the present one", x, true, rows);
        check.due("instruction 24", Check.ELEMENT, () -> x.look(false, 24, 0));
    }

    private void whatRegistersHold() {
        about("[r] is what register r holds):");
        dueValue("MOVE", 70, taken(op(MOVE, 2, 1), end(2)), 60, 70);
        dueValue("MUL", 60 * 70, taken(op(MUL, 2, 0, 1), end(2)), 60, 70);
        dueValue("a sum of what has been written", 140, taken(op(MOVE, 0, 1), op(ADD, 0, 0, 1), end(0)), 60, 70);
        PassPipeline x = taken(plain(STORE, 0, 1), op(LOAD, 2, 0), op(CALL, 3, 1), end(2));
        dueValue("LOAD", 70, x, 6, 70);
        check.due("STORE, cell(6)", 70, () -> x.cell(6));
        check.due("STORE, cell(0)", 0, () -> x.cell(0));
        check.due("CALL", 70, () -> x.traced(0));
        dueValue("ZERO of a register 0 that holds no 0", 70, taken(op(ZERO, 2, 0), end(1), end(0)), 60, 70);
        dueValue("ZERO of a register 1 that holds 0", 60, taken(op(ZERO, 2, 1), end(1), end(0)), 60, 0);
    }

    private void numbersThatTheKindDoesNotName() {
        about("(0 where the kind doesn't name them, whatever is given;");
        for (int edge : EDGES) {
            PassPipeline x = new PassPipeline();
            write(x, op(NOTHING, edge, edge, edge), op(CONST, 7, 6, edge), op(MOVE, 7, 6, edge), op(LOAD, 7, 6, edge),
                    op(STORE, edge, 6, 5), op(JUMP, 7, edge, edge), op(ZERO, 7, 6, edge), op(CALL, 7, 6, edge),
                    op(RETURN, edge, 6, edge));
            check.due("given " + edge + ", take()", 9, x::take);
            int[][] kept = {op(NOTHING), op(CONST, 7, 6), op(MOVE, 7, 6), op(LOAD, 7, 6), plain(STORE, 6, 5),
                op(JUMP, 7), op(ZERO, 7, 6), op(CALL, 7, 6), end(6)};
            dueProgram("given " + edge, x, false, kept);
            dueProgram("given " + edge, x, true, kept);
        }
    }

    private void kinds() {
        nothing();
        constAndMove();
        sums();
        division();
        loadAndStore();
        jumpAndZero();
        call();
        returning();
        reloadAndSpill();
        wrapping();
        theDraft();
        originalAndPresent();
    }

    private void nothing() {
        about("0 NOTHING.");
        PassPipeline x = taken(op(NOTHING), op(NOTHING), end(0));
        dueEnding("NOTHING is done, too", 0, 3, x, 5, 6);
        check.due("NOTHING leaves the registers", 5, x::value);
    }

    private void constAndMove() {
        about("1 CONST d a: [d] becomes a.");
        for (int number : new int[] {MIN, -1, 0, 1, MAX}) {
            dueValue("CONST " + number, number, taken(op(CONST, 1, number), end(1)), 5, 6);
        }
        about("2 MOVE d a: [a].");
        dueValue("MOVE", MIN, taken(op(MOVE, 7, 1), end(7)), 5, MIN);
        dueValue("MOVE leaves a", 6, taken(op(MOVE, 7, 1), end(1)), 5, 6);
        dueValue("MOVE to itself", 6, taken(op(MOVE, 1, 1), end(1)), 5, 6);
    }

    private void sums() {
        about("3 ADD, 4 SUB, 5 MUL d a b: [a] + [b], [a] - [b], [a] * [b].");
        int[] due = {14, 6, 40};
        for (int kind = ADD; kind <= MUL; kind++) {
            for (int d = 0; d < 3; d++) {
                dueValue("kind " + kind + " into " + d, due[kind - ADD], taken(op(kind, d, 0, 1), end(d)), 10, 4);
            }
        }
        sumsOfAnyRegisters();
        dueValue("SUB the other way round", -6, taken(op(SUB, 2, 1, 0), end(2)), 10, 4);
        dueValue("MUL by itself", 100, taken(op(MUL, 0, 0, 0), end(0)), 10, 4);
    }

    private void sumsOfAnyRegisters() {
        int[] due = {17 + 5, 17 - 5, 17 * 5, 17 / 5};
        for (int i = 0; i < 512; i++) {
            int d = i / 64;
            int a = i / 8 % 8;
            int b = i % 8;
            for (int kind = ADD; kind <= DIV && a != b; kind++) {
                dueValue("kind " + kind + " " + d + " " + a + " " + b, due[kind - ADD],
                        taken(op(CONST, a, 17), op(CONST, b, 5), op(kind, d, a, b), end(d)), 1, 2);
            }
        }
    }

    private void division() {
        about("6 DIV d a b: [a] / [b].");
        PassPipeline x = taken(op(DIV, 0, 0, 1), end(0));
        dueValue("DIV", 3, x, 7, 2);
        dueValue("DIV", -3, x, -7, 2);
        dueValue("DIV", -3, x, 7, -2);
        dueValue("DIV", 3, x, -7, -2);
        dueValue("DIV", 0, x, 0, -2);
        dueValue("DIV", 0, x, MAX, MIN);
        dueValue("DIV", -1, x, MIN, MAX);
    }

    private void loadAndStore() {
        for (int i = 0; i < 64; i++) {
            anyTwoRegisters(i / 8, i % 8);
        }
        about("7 LOAD d a: cell [a].");
        PassPipeline x = taken(op(LOAD, 0, 0), end(0));
        x.poke(0, MIN);
        x.poke(7, 77);
        dueValue("LOAD", MIN, x, 0, 9);
        dueValue("LOAD", 77, x, 7, 9);
        about("8 STORE a b: cell [a] becomes [b].");
        PassPipeline y = taken(plain(STORE, 0, 1), end(1));
        dueValue("STORE", MAX, y, 7, MAX);
        check.due("STORE", MAX, () -> y.cell(7));
        check.due("STORE, another cell", 0, () -> y.cell(0));
    }

    private void anyTwoRegisters(int one, int other) {
        PassPipeline x = taken(op(CONST, one, 6), op(LOAD, other, one), end(other));
        x.poke(6, 66);
        about("7 LOAD d a: cell [a].");
        dueValue("LOAD " + other + " " + one, 66, x, 1, 2);
        PassPipeline y = taken(op(CONST, one, 4), op(CONST, other, 7), plain(STORE, one, other), end(one));
        about("8 STORE a b: cell [a] becomes [b].");
        dueValue("STORE " + one + " " + other, one == other ? 7 : 4, y, 1, 2);
        check.due("STORE " + one + " " + other, 7, () -> y.cell(one == other ? 7 : 4));
        PassPipeline z = taken(op(CONST, one, 4), op(CALL, other, one), end(other));
        about("11 CALL d a: [a] is put to the end of the TRACE,");
        dueValue("CALL " + other + " " + one, 3 * 4 + 1, z, 1, 2);
        check.due("CALL " + other + " " + one, 4, () -> z.traced(0));
        about("2 MOVE d a: [a].");
        dueValue("MOVE " + other + " " + one, 4, taken(op(CONST, one, 4), op(MOVE, other, one), end(other)), 1, 2);
    }

    private void jumpAndZero() {
        about("9 JUMP d: goes to instruction d.");
        dueValue("JUMP on", 9, taken(op(JUMP, 2), end(0), end(1)), 5, 9);
        dueValue("JUMP back", 9, taken(op(JUMP, 2), end(1), op(JUMP, 1)), 5, 9);
        dueEnding("JUMP to itself", 3, 400, taken(op(JUMP, 0)), 5, 9);
        about("10 ZERO d a: goes to instruction d when [a] is 0.");
        PassPipeline x = taken(op(ZERO, 2, 0), end(0), end(1));
        dueValue("ZERO of 0", 9, x, 0, 9);
        for (int other : new int[] {MIN, -1, 1, 256, MAX}) {
            dueValue("ZERO of " + other, other, x, other, 9);
        }
    }

    private void call() {
        about("11 CALL d a: [a] is put to the end of the TRACE, [d] becomes 3 * [a] plus how many numbers the trace has"
                + " then.");
        PassPipeline x = taken(op(CALL, 0, 0), op(CALL, 0, 0), op(CALL, 2, 1), end(2));
        dueValue("the third CALL", 3 * -4 + 3, x, 10, -4);
        check.due("what the first put", 10, () -> x.traced(0));
        check.due("what the second put", 3 * 10 + 1, () -> x.traced(1));
        check.due("what the third put", -4, () -> x.traced(2));
        check.due("no more", Check.ELEMENT, () -> x.traced(3));
    }

    private void returning() {
        about("12 RETURN a: ends with [a].");
        PassPipeline x = taken(end(1), end(0));
        dueEnding("the first RETURN", 0, 1, x, 5, MIN);
        check.due("the first RETURN", MIN, x::value);
        dueValue("of a register that is 0", 0, taken(end(7)), 5, 6);
    }

    private void reloadAndSpill() {
        about("Only in programs that were allocated: 13 RELOAD d a: slot a. 14 SPILL a b: slot b becomes [a].");
        PassPipeline x = new PassPipeline();
        check.due("RELOAD in a draft", Check.ARGUMENT, () -> x.instruction(RELOAD, 0, 0, 0));
        check.due("SPILL in a draft", Check.ARGUMENT, () -> x.instruction(SPILL, 0, 0, 0));
        takeInto(x, op(CONST, 2, 7), op(CONST, 3, 8), op(CONST, 4, 9), op(SUB, 0, 0, 2), op(SUB, 0, 0, 3),
                op(SUB, 0, 0, 4), op(SUB, 0, 0, 1), end(0));
        check.due("allocate(4)", 3, () -> x.allocate(4));
        dueProgram("allocated", x, true,
                op(CONST, 2, 7), plain(SPILL, 2, 0), op(CONST, 2, 8), plain(SPILL, 2, 1),
                op(CONST, 2, 9), plain(SPILL, 2, 2), op(RELOAD, 3, 0), op(SUB, 0, 0, 3),
                op(RELOAD, 3, 1), op(SUB, 0, 0, 3), op(RELOAD, 3, 2), op(SUB, 0, 0, 3), op(SUB, 0, 0, 1), end(0));
        check.due("run", 0, () -> x.run(true, 1000, 100));
        check.due("each slot gives what was put into it", 1000 - 7 - 8 - 9 - 100, x::value);
    }

    private void wrapping() {
        about("Ints wrap round as Java's.");
        dueValue("ADD", MIN, taken(op(ADD, 2, 0, 1), end(2)), MAX, 1);
        dueValue("ADD", MAX, taken(op(ADD, 2, 0, 1), end(2)), MIN, -1);
        dueValue("SUB", MAX, taken(op(SUB, 2, 0, 1), end(2)), MIN, 1);
        dueValue("SUB", MIN, taken(op(SUB, 2, 0, 1), end(2)), 0, MIN);
        dueValue("MUL", -2, taken(op(MUL, 2, 0, 1), end(2)), MAX, 2);
        dueValue("MUL", 0, taken(op(MUL, 2, 0, 1), end(2)), 1 << 16, 1 << 16);
        dueValue("DIV", MIN, taken(op(DIV, 2, 0, 1), end(2)), MIN, -1);
        dueValue("CALL", MAX - 1, taken(op(CALL, 2, 0), end(2)), MAX, 1);
        duePass("in FOLD, too", FOLD,
                rows(op(CONST, 2, MIN), op(CONST, 3, -1), op(CONST, 4, MAX), op(ADD, 5, 2, 3), op(SUB, 6, 2, 4),
                        op(MUL, 7, 4, 4), op(DIV, 2, 2, 3), end(2)), 4,
                op(CONST, 2, MIN), op(CONST, 3, -1), op(CONST, 4, MAX), op(CONST, 5, MAX), op(CONST, 6, 1),
                op(CONST, 7, 1), op(CONST, 2, MIN), end(2));
    }

    private void theDraft() {
        about("The DRAFT has at most 24 instructions of the kinds 0 .. 12.");
        PassPipeline x = new PassPipeline();
        for (int i = 0; i < 24; i++) {
            int kind = i % 13;
            check.due("instruction " + i, i, () -> x.instruction(kind == JUMP ? NOTHING : kind, 1, 2, 3));
        }
        check.due("the 25th", Check.STATE, () -> x.instruction(RETURN, 0, 0, 0));
        check.due("24 without a JUMP or RETURN at the end", Check.ARGUMENT, x::take);
        for (int i = 0; i < 24; i++) {
            x.instruction(RETURN, 0, i % 8, 0);
        }
        check.due("24 are a program", 24, x::take);
        check.due("the last one", 7, () -> x.look(false, 23, 2));
        check.due("kind -1", Check.ARGUMENT, () -> x.instruction(-1, 0, 0, 0));
        check.due("kind 13", Check.ARGUMENT, () -> x.instruction(13, 0, 0, 0));
    }

    private void originalAndPresent() {
        about("It is the ORIGINAL when it is taken, and the PRESENT program too; the passes change the present one.");
        int[][] rows = {op(MOVE, 2, 3), op(CONST, 4, 0), op(MUL, 2, 4, 4), op(NOTHING), end(2)};
        PassPipeline x = new PassPipeline();
        write(x, rows);
        check.due("not yet the original", 0, x.length(false));
        check.due("not yet the present one", 0, x.length(true));
        x.take();
        dueProgram("taken", x, false, rows);
        dueProgram("taken", x, true, rows);
        int[] counts = {2, 2, 1, 3};
        for (int pass = FOLD; pass <= PACK; pass++) {
            int number = pass;
            check.due("pass(" + pass + ")", counts[pass], () -> x.pass(number));
            dueProgram("after pass " + pass, x, false, rows);
        }
        dueProgram("after all passes", x, true, op(CONST, 2, 0), end(2));
    }

    private void running() {
        registersBegin();
        slotsBeginWithZero();
        memoryAndTraceBegin();
        instructionZeroFirst();
        endsByReturn();
        endsByDivision();
        endsByCell();
        endsByCall();
        endsSpent();
        spentIsLookedAtFirst();
    }

    private void registersBegin() {
        about("RUNNING: registers 0 and 1 hold the arguments, the others and the slots 0,");
        for (int r = 2; r < 8; r++) {
            PassPipeline x = taken(op(ADD, r, r, 0), op(ADD, r, r, 1), end(r));
            dueValue("register " + r + " begins with 0", MIN + 3, x, MIN, 3);
            dueValue("and in the next run", 7, x, 3, 4);
        }
        dueValue("register 0", MIN, taken(end(0)), MIN, MAX);
        dueValue("register 1", MAX, taken(end(1)), MIN, MAX);
    }

    private void memoryAndTraceBegin() {
        about("the memory what the host has put into it; the trace is empty.");
        PassPipeline y = taken(op(LOAD, 2, 0), plain(STORE, 0, 1), op(CALL, 3, 2), end(2));
        y.poke(4, 44);
        dueValue("what the host has put", 44, y, 4, 5);
        dueValue("not what the run before stored", 44, y, 4, 6);
        check.due("the trace was empty", 44, () -> y.traced(0));
        check.due("the trace was empty", Check.ELEMENT, () -> y.traced(1));
    }

    private void slotsBeginWithZero() {
        about("the others and the slots 0,");
        int[][] all = new int[14][];
        for (int r = 2; r < 8; r++) {
            all[r - 2] = op(ADD, r, r, 0);
            all[r + 4] = op(ADD, 0, 0, r);
        }
        all[12] = op(ADD, 0, 0, 1);
        all[13] = end(0);
        PassPipeline x = taken(all);
        check.due("six slots", 6, () -> x.allocate(4));
        for (int time = 0; time < 2; time++) {
            check.due("run", 0, () -> x.run(true, 10, 5));
            check.due("slots begin with 0", 7 * 10 + 5, x::value);
        }
    }

    private void instructionZeroFirst() {
        about("Instruction 0 is done first, then what follows.");
        dueValue("in order", (5 + 6) * 6 - 5,
                taken(op(ADD, 2, 0, 1), op(MUL, 2, 2, 1), op(SUB, 2, 2, 0), end(2)), 5, 6);
        dueValue("RETURN at once", 5, taken(end(0), op(CONST, 0, 1), end(0)), 5, 6);
        dueValue("behind a ZERO that doesn't go", 1, taken(op(ZERO, 2, 0), op(CONST, 0, 1), end(0)), 5, 6);
    }

    private void endsByReturn() {
        about("A run ENDS: 0 by RETURN;");
        PassPipeline x = taken(op(CONST, 2, 8), end(2), op(DIV, 3, 3, 3), end(3));
        dueEnding("what stands behind is not done", 0, 2, x, 5, 6);
        check.due("value()", 8, x::value);
    }

    /** What ends a run otherwise leaves what was done before, and no value. */
    private void dueOtherEnding(String test, int ending, int steps, PassPipeline x, int x0, int y0) {
        dueEnding(test, ending, steps, x, x0, y0);
        check.due(test + " value()", Check.ELEMENT, x::value);
    }

    private void endsByDivision() {
        about("before the instruction is done: 1 a division by 0,");
        PassPipeline x = taken(plain(STORE, 2, 0), op(DIV, 3, 0, 1), plain(STORE, 2, 3), end(3));
        dueOtherEnding("5 / 0", 1, 1, x, 5, 0);
        check.due("what was stored before", 5, () -> x.cell(0));
        dueOtherEnding("0 / 0", 1, 1, x, 0, 0);
        dueOtherEnding("MIN / 0", 1, 1, x, MIN, 0);
        dueEnding("0 / 5", 0, 4, x, 0, 5);
        dueOtherEnding("a division by 0 comes first", 1, 0, taken(op(DIV, 2, 2, 2), end(2)), 1, 1);
    }

    private void endsByCell() {
        about("2 a cell that is not there,");
        PassPipeline load = taken(op(CALL, 2, 1), op(LOAD, 2, 0), end(2));
        PassPipeline store = taken(op(CALL, 2, 1), plain(STORE, 0, 1), end(2));
        for (int cell : new int[] {MIN, -1, 8, 256, MAX}) {
            dueOtherEnding("LOAD of cell " + cell, 2, 1, load, cell, 6);
            check.due("what was called before", 6, () -> load.traced(0));
            dueOtherEnding("STORE to cell " + cell, 2, 1, store, cell, 6);
            for (int c = 0; c < 8; c++) {
                int held = c;
                check.due("nothing was stored", 0, () -> store.cell(held));
            }
        }
        dueEnding("LOAD of cell 0", 0, 3, load, 0, 6);
        dueEnding("LOAD of cell 7", 0, 3, load, 7, 6);
        dueEnding("STORE to cell 0", 0, 3, store, 0, 6);
        dueEnding("STORE to cell 7", 0, 3, store, 7, 6);
    }

    private void endsByCall() {
        about("4 a CALL when the trace has 16 numbers,");
        PassPipeline x = taken(op(CALL, 2, 0), op(SUB, 0, 0, 1), op(ZERO, 4, 0), op(JUMP, 0), end(2));
        dueEnding("16 CALLs", 0, 16 * 4, x, 16, 1);
        check.due("what the sixteenth gave", 3 * 1 + 16, x::value);
        check.due("what the sixteenth put", 1, () -> x.traced(15));
        dueOtherEnding("17 CALLs", 4, 16 * 4, x, 17, 1);
        check.due("what the sixteenth put", 2, () -> x.traced(15));
        check.due("the seventeenth put nothing", Check.ELEMENT, () -> x.traced(16));
        dueEnding("the next run's trace is empty again", 0, 4, x, 1, 1);
    }

    /** With -133 and -1 the rows come when 398 + pads instructions are done; [0] is 0 then, and [1] is -1. */
    private static PassPipeline late(int pads, int[]... rows) {
        PassPipeline x = new PassPipeline();
        write(x, op(SUB, 0, 0, 1), op(ZERO, 3, 0), op(JUMP, 0));
        for (int i = 0; i < pads; i++) {
            x.instruction(NOTHING, 0, 0, 0);
        }
        takeInto(x, rows);
        return x;
    }

    private void endsSpent() {
        about("3 when it has done 400 instructions");
        PassPipeline x = late(1, end(1));
        dueEnding("RETURN is number 400", 0, 400, x, -133, -1);
        check.due("value()", -1, x::value);
        dueOtherEnding("RETURN would be number 401", 3, 400, late(2, end(1)), -133, -1);
        PassPipeline y = late(1, plain(STORE, 0, 1), end(1));
        dueOtherEnding("STORE is number 400", 3, 400, y, -133, -1);
        check.due("it is done", -1, () -> y.cell(0));
        PassPipeline z = late(2, plain(STORE, 0, 1), end(1));
        dueOtherEnding("STORE would be number 401", 3, 400, z, -133, -1);
        check.due("it is not done", 0, () -> z.cell(0));
        PassPipeline u = late(1, op(CALL, 2, 1), end(1));
        dueOtherEnding("CALL is number 400", 3, 400, u, -133, -1);
        check.due("it is done", -1, () -> u.traced(0));
        dueOtherEnding("a loop of one", 3, 400, taken(op(JUMP, 0)), 0, 0);
        dueOtherEnding("a loop of three", 3, 400, taken(op(JUMP, 1), op(NOTHING), op(JUMP, 0)), 0, 0);
    }

    private void spentIsLookedAtFirst() {
        about("(this is looked at first).");
        int[][] faults = {op(DIV, 2, 1, 0), op(LOAD, 2, 1), plain(STORE, 1, 0)};
        int[] endings = {1, 2, 2};
        for (int i = 0; i < faults.length; i++) {
            dueOtherEnding("after 399, kind " + faults[i][0], endings[i], 399, late(1, faults[i], end(1)), -133, -1);
            dueOtherEnding("after 400, kind " + faults[i][0], 3, 400, late(2, faults[i], end(1)), -133, -1);
        }
        dueOtherEnding("after 399, CALL", 4, 399, lateSeventeenthCall(0), 128, 1);
        dueOtherEnding("after 400, CALL", 3, 400, lateSeventeenthCall(1), 128, 1);
    }

    /** With 128 and 1 the seventeenth CALL comes when 399 + pads instructions are done. */
    private static PassPipeline lateSeventeenthCall(int pads) {
        PassPipeline x = new PassPipeline();
        for (int i = 0; i < 16; i++) {
            x.instruction(CALL, 2, 1, 0);
        }
        write(x, op(SUB, 0, 0, 1), op(ZERO, 19, 0), op(JUMP, 16));
        for (int i = 0; i < pads; i++) {
            x.instruction(NOTHING, 0, 0, 0);
        }
        takeInto(x, op(CALL, 2, 1), end(2));
        return x;
    }
}
