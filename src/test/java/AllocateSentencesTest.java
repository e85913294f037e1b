/** The sentences of ALLOCATE, each by itself. */
final class AllocateSentencesTest extends Tester {
    private AllocateSentencesTest() {
        super("AllocateSentencesTest");
    }

    public static void main(String[] args) {
        AllocateSentencesTest test = new AllocateSentencesTest();
        test.interference();
        test.machineRegisters();
        test.slots();
        test.instructions();
        test.check.end();
    }

    private void about(String sentence) {
        check.about("Terms", sentence);
    }

    /** What allocate answers, and the homes of registers 2, 3, .. as far as they are given. */
    private void dueAllocation(String test, int[][] rows, int k, int inSlots, int... homes) {
        for (PassPipeline x : newAndUsed()) {
            takeInto(x, rows);
            dueAllocation(test, x, k, inSlots, homes);
        }
    }

    private void dueAllocation(String test, PassPipeline x, int k, int inSlots, int... homes) {
        check.due(test + " allocate(" + k + ")", inSlots, () -> x.allocate(k));
        check.due(test + " home(0)", 0, () -> x.home(0));
        check.due(test + " home(1)", 1, () -> x.home(1));
        for (int i = 0; i < homes.length; i++) {
            int register = i + 2;
            check.due(test + " home(" + register + ")", homes[i], () -> x.home(register));
        }
    }

    private void interference() {
        liveBeforeInstructionZero();
        argumentsCountAsLive();
        writtenWhileAnotherIsLive();
        writtenByEachKind();
        writtenForNobody();
        liveOnEitherWay();
        movesApart();
    }

    private void liveBeforeInstructionZero() {
        about("Two registers INTERFERE when both are live before instruction 0");
        dueAllocation("two that are read", rows(op(ADD, 4, 2, 3), end(4)), 4, 0, 2, 3, 0, 0, 0, 0);
        dueAllocation("read on different ways", rows(op(ZERO, 2, 0), end(2), end(3)), 4, 0, 2, 3);
        dueAllocation("written before they are read", rows(op(CONST, 2, 5), op(CALL, 4, 2), op(CONST, 3, 6), end(3)), 2,
                0, 0, 0, 0);
        dueAllocation("live by a way back", rows(op(ZERO, 3, 0), op(LOAD, 2, 3), op(JUMP, 0), end(2)), 4, 0, 2, 3);
    }

    private void argumentsCountAsLive() {
        about("(0 and 1 count as live there),");
        for (int r = 2; r < 8; r++) {
            int[] homes = new int[6];
            homes[r - 2] = 2;
            dueAllocation("nobody reads 0 and 1", rows(end(r)), 3, 0, homes);
            PassPipeline x = taken(end(r));
            check.due("no third machine register", Check.STATE, () -> x.allocate(2));
        }
        dueAllocation("arguments that are written at once", rows(op(CONST, 0, 1), op(CONST, 1, 2), end(2)), 4, 0, 2);
    }

    private void writtenWhileAnotherIsLive() {
        about("or an instruction writes one of them and the other one is live before what follows");
        dueAllocation("0 is live behind it", rows(op(CONST, 2, 5), op(ADD, 2, 2, 0), end(2)), 2, 0, 1);
        dueAllocation("1 is live behind it", rows(op(CONST, 2, 5), op(ADD, 2, 2, 1), end(2)), 2, 0, 0);
        dueAllocation("both are", rows(op(CONST, 2, 5), op(ADD, 2, 2, 1), op(ADD, 2, 2, 0), end(2)), 3, 0, 2);
        dueAllocation("live before it alone", rows(op(ADD, 2, 0, 1), end(2)), 2, 0, 0);
        dueAllocation("a lower one is written while a higher one is live",
                rows(op(CONST, 3, 5), op(CONST, 2, 6), op(SUB, 2, 2, 3), end(2)), 2, 0, 0, 1);
        dueAllocation("an argument is written while another is live",
                rows(op(CONST, 2, 6), op(LOAD, 0, 1), op(SUB, 0, 0, 2), end(0)), 3, 0, 2);
    }

    private void writtenByEachKind() {
        about("or an instruction writes one of them");
        int[][] writers = {op(CONST, 2, 5), op(MOVE, 2, 1), op(ADD, 2, 1, 1), op(SUB, 2, 1, 1), op(MUL, 2, 1, 1),
            op(DIV, 2, 1, 1), op(LOAD, 2, 1), op(CALL, 2, 1)};
        for (int[] writer : writers) {
            dueAllocation("kind " + writer[0] + " writes", rows(writer, op(ADD, 2, 2, 0), end(2)), 2, 0, 1);
        }
        int[][] others = {op(NOTHING), plain(STORE, 1, 1), op(ZERO, 1, 1), op(JUMP, 1)};
        for (int[] other : others) {
            dueAllocation("kind " + other[0] + " writes no register", rows(other, end(0)), 2, 0, 0, 0, 0, 0, 0, 0);
        }
    }

    private void writtenForNobody() {
        about("or an instruction writes one of them and the other one is live before what follows");
        dueAllocation("what is written for nobody", rows(op(CONST, 2, 5), op(ADD, 3, 0, 1), end(3)), 3, 0, 2, 0);
        dueAllocation("what is not reached", rows(op(JUMP, 2), op(CONST, 2, 5), op(ADD, 3, 0, 1), end(3)), 3, 0, 2, 0);
    }

    private void liveOnEitherWay() {
        about("and the other one is live before what follows");
        dueAllocation("on either way of a ZERO", rows(op(CONST, 2, 5), op(ZERO, 3, 2), end(0), end(1)), 3, 0, 2);
        dueAllocation("not behind a JUMP", rows(op(CONST, 2, 5), op(JUMP, 3), end(0), end(2)), 2, 0, 0);
        dueAllocation("not behind a RETURN", rows(op(CONST, 2, 5), end(2), end(0)), 2, 0, 0);
    }

    private void movesApart() {
        about("(the other one is not a, if it is MOVE d a).");
        dueAllocation("a MOVE", rows(op(MOVE, 2, 0), op(ADD, 2, 2, 0), end(2)), 2, 0, 0);
        dueAllocation("another kind that reads it", rows(op(SUB, 2, 0, 1), op(ADD, 2, 2, 0), end(2)), 2, 0, 1);
        dueAllocation("others that are live interfere", rows(op(MOVE, 2, 0), op(ADD, 2, 2, 1), end(2)), 2, 0, 0);
        dueAllocation("others that are live interfere", rows(op(MOVE, 2, 1), op(ADD, 2, 2, 0), end(2)), 2, 0, 1);
        dueAllocation("two copies of one", rows(op(MOVE, 2, 0), op(MOVE, 3, 0), op(ADD, 2, 2, 3), op(ADD, 2, 2, 0),
                end(2)), 2, 0, 1, 0);
        dueAllocation("another instruction makes them interfere",
                rows(op(MOVE, 2, 0), op(CALL, 3, 2), op(LOAD, 2, 3), op(ADD, 2, 2, 0), end(2)), 3, 0, 1, 1);
    }

    private void machineRegisters() {
        arguments();
        inOrderIntoTheLowest();
        belowK();
    }

    private void arguments() {
        about("Registers 0 and 1 come into machine registers 0 and 1;");
        for (int k = 2; k <= 8; k++) {
            dueAllocation("k " + k, rows(op(SUB, 0, 0, 1), end(0)), k, 0, 0, 0, 0, 0, 0, 0);
        }
        dueAllocation("with slots, too", allLive(op(NOTHING)), 4, 6, 8, 9, 10, 11, 12, 13);
    }

    private void inOrderIntoTheLowest() {
        about("then registers 2 .. 7, in order, each into the lowest one below k into which none has come that"
                + " interferes with it.");
        dueAllocation("in the order of registers, not of writes",
                rows(op(CONST, 7, 1), op(CONST, 6, 2), op(CONST, 5, 3), op(ADD, 5, 5, 6), op(ADD, 5, 5, 7),
                        op(ADD, 5, 5, 0), end(5)), 4, 0, 0, 0, 0, 1, 2, 3);
        dueAllocation("a lower one is free again",
                rows(op(CONST, 2, 1), op(CONST, 3, 2), op(SUB, 4, 2, 3), op(CALL, 5, 4), op(SUB, 5, 5, 0),
                        op(SUB, 5, 5, 1), end(5)), 4, 0, 2, 3, 2, 2, 0, 0);
        dueAllocation("several in one", rows(op(CONST, 2, 1), op(CALL, 3, 2), op(CALL, 4, 3), op(CALL, 5, 4),
                op(CALL, 6, 5), op(CALL, 7, 6), end(7)), 2, 0, 0, 0, 0, 0, 0, 0);
        dueAllocation("any of several that came there before", rows(op(CONST, 2, 1), op(CALL, 3, 2), op(CONST, 4, 2),
                op(SUB, 4, 4, 3), end(4)), 2, 0, 0, 0, 1);
    }

    private void belowK() {
        about("each into the lowest one below k");
        dueAllocation("8", allLive(op(NOTHING)), 8, 0, 2, 3, 4, 5, 6, 7);
        int[][] three = rows(op(CONST, 2, 5), op(ADD, 2, 2, 1), op(ADD, 2, 2, 0), end(2));
        dueAllocation("3 is enough", three, 3, 0, 2);
        PassPipeline x = taken(three);
        check.due("2 is not", Check.STATE, () -> x.allocate(2));
        dueAllocation("nothing needs the second one", rows(end(0)), 2, 0, 0, 0, 0, 0, 0, 0);
    }

    /** All registers are live behind the first row. */
    private static int[][] allLive(int[] first) {
        int[][] rows = new int[9][];
        rows[0] = first;
        for (int r = 1; r < 8; r++) {
            rows[r] = op(ADD, 0, 0, r);
        }
        rows[8] = end(0);
        return rows;
    }

    private void slots() {
        allAnew();
        nextSlot();
        tooFew();
    }

    private void allAnew() {
        about("When there is none for some: all this anew, with k - 2 in place of k,");
        dueAllocation("7", allLive(op(NOTHING)), 7, 3, 2, 3, 4, 8, 9, 10);
        dueAllocation("6", allLive(op(NOTHING)), 6, 4, 2, 3, 8, 9, 10, 11);
        dueAllocation("5", allLive(op(NOTHING)), 5, 5, 2, 8, 9, 10, 11, 12);
        dueAllocation("4", allLive(op(NOTHING)), 4, 6, 8, 9, 10, 11, 12, 13);
    }

    private void nextSlot() {
        about("and where there is none, the register comes into the next slot (0, 1, ..);");
        int[][] rows = {op(CONST, 2, 1), op(CONST, 4, 2), op(CONST, 6, 3), op(SUB, 0, 0, 2), op(SUB, 0, 0, 4),
            op(SUB, 0, 0, 6), op(SUB, 0, 0, 1), op(CALL, 7, 0), op(CALL, 3, 7), end(3)};
        dueAllocation("5 are enough", rows, 5, 0, 2, 0, 3, 0, 4, 0);
        PassPipeline x = taken(rows);
        dueAllocation("others still find one between and behind", x, 4, 3, 8, 0, 9, 0, 10, 0);
        check.due("run", 0, () -> x.run(true, 100, 10));
        check.due("value", 3 * (3 * (100 - 1 - 2 - 3 - 10) + 1) + 2, x::value);
    }

    private void tooFew() {
        check.about("Promise 5", "or k is below 4 and some register finds no machine register (nothing is done then).");
        for (int k = 2; k < 4; k++) {
            int few = k;
            PassPipeline x = taken(allLive(op(NOTHING)));
            check.due("no helpers below 4", Check.STATE, () -> x.allocate(few));
            dueProgram("nothing is done", x, true, allLive(op(NOTHING)));
            check.due("4 does", 6, () -> x.allocate(4));
        }
    }

    private void instructions() {
        eachBecomesSome();
        helpers();
        reloadOfA();
        reloadOfB();
        itself();
        spillOfD();
        whereJumpsGo();
        jumpsToThemselves();
        behindADivisionByZero();
        theLongest();
    }

    /** With k 4 register r is in slot r - 2, and the helpers are 2 and 3. */
    private void dueBecomes(String test, int[] row, int[]... due) {
        for (PassPipeline x : newAndUsed()) {
            takeInto(x, allLive(row));
            dueBecomes(test, x, due);
        }
    }

    private void dueBecomes(String test, PassPipeline x, int[]... due) {
        check.due(test + " allocate(4)", 6, () -> x.allocate(4));
        for (int i = 0; i < due.length; i++) {
            for (int what = 0; what < 4; what++) {
                check.due(test + " look(true, " + i + ", " + what + ")", due[i][what], x.look(true, i, what));
            }
        }
        check.due(test + " length(true)", due.length + 1 + 6 * 2 + 1, x.length(true));
        check.due(test + " what is behind it", ADD, x.look(true, due.length, 0));
    }

    private void helpers() {
        about("k - 2 and k - 1 are HELPERS.");
        for (int k = 4; k <= 7; k++) {
            int number = k;
            PassPipeline x = taken(allLive(op(SUB, 5, 6, 7)));
            check.due("allocate(" + k + ")", 10 - k, () -> x.allocate(number));
            int slot = 8 - k;
            int[][] due = {op(RELOAD, k - 2, slot), op(RELOAD, k - 1, slot + 1), op(SUB, k - 2, k - 2, k - 1),
                plain(SPILL, k - 2, slot - 1)};
            for (int i = 0; i < due.length * 4; i++) {
                check.due("k " + k + " look(true, " + i / 4 + ", " + i % 4 + ")", due[i / 4][i % 4],
                        x.look(true, i / 4, i % 4));
            }
        }
    }

    private void eachBecomesSome() {
        about("Then each instruction becomes:");
        int[][] each = {op(NOTHING), op(CONST, 1, 7), op(MOVE, 0, 1), op(ADD, 0, 0, 1), op(SUB, 1, 0, 1),
            op(MUL, 0, 1, 1), op(DIV, 1, 0, 1), op(LOAD, 1, 0), plain(STORE, 1, 0), op(JUMP, 11), op(ZERO, 0, 1),
            op(CALL, 0, 1), op(NOTHING), end(0), op(JUMP, 14)};
        for (int k = 2; k <= 8; k++) {
            for (PassPipeline x : newAndUsed()) {
                takeInto(x, each);
                dueAllocation("registers 0 and 1 alone", x, k, 0);
                dueProgram("registers 0 and 1 alone, in their order", x, true, each);
            }
        }
        PassPipeline y = taken(op(NOTHING), op(ADD, 2, 2, 3), op(SUB, 2, 2, 4), end(1), op(MUL, 5, 5, 6), end(5));
        check.due("three slots", 3, () -> y.allocate(4));
        dueProgram("those that are never done, too", y, true, op(NOTHING), op(RELOAD, 2, 0), op(RELOAD, 3, 1),
                op(ADD, 2, 2, 3), plain(SPILL, 2, 0), op(RELOAD, 2, 0), op(RELOAD, 3, 2), op(SUB, 2, 2, 3),
                plain(SPILL, 2, 0), end(1), op(MUL, 0, 0, 0), end(0));
    }

    private void reloadOfA() {
        about("RELOAD of a into the first helper, if it reads a and that is in a slot;");
        dueBecomes("MOVE", op(MOVE, 1, 6), op(RELOAD, 2, 4), op(MOVE, 1, 2));
        dueBecomes("ADD", op(ADD, 1, 6, 0), op(RELOAD, 2, 4), op(ADD, 1, 2, 0));
        dueBecomes("SUB", op(SUB, 1, 6, 0), op(RELOAD, 2, 4), op(SUB, 1, 2, 0));
        dueBecomes("MUL", op(MUL, 1, 6, 0), op(RELOAD, 2, 4), op(MUL, 1, 2, 0));
        dueBecomes("DIV", op(DIV, 1, 6, 0), op(RELOAD, 2, 4), op(DIV, 1, 2, 0));
        dueBecomes("LOAD", op(LOAD, 1, 6), op(RELOAD, 2, 4), op(LOAD, 1, 2));
        dueBecomes("STORE", plain(STORE, 6, 0), op(RELOAD, 2, 4), plain(STORE, 2, 0));
        dueBecomes("ZERO", op(ZERO, 1, 6), op(RELOAD, 2, 4), op(ZERO, 2, 2));
        dueBecomes("CALL", op(CALL, 1, 6), op(RELOAD, 2, 4), op(CALL, 1, 2));
        dueBecomes("not the number of a CONST", op(CONST, 1, 6), op(CONST, 1, 6));
        dueBecomes("not one in a machine register", op(CALL, 0, 1), op(CALL, 0, 1));
        reloadForReturn();
    }

    private void reloadForReturn() {
        about("RELOAD of a into the first helper, if it reads a and that is in a slot;");
        PassPipeline x = taken(op(ZERO, 2, 0), end(7), op(CALL, 0, 2), op(ADD, 0, 0, 3), op(ADD, 0, 0, 4),
                op(ADD, 0, 0, 1), end(0));
        check.due("RETURN allocate(4)", 4, () -> x.allocate(4));
        check.due("RETURN home(7)", 11, () -> x.home(7));
        dueProgram("RETURN", x, true, op(ZERO, 3, 0), op(RELOAD, 2, 3), end(2), op(RELOAD, 2, 0), op(CALL, 0, 2),
                op(RELOAD, 3, 1), op(ADD, 0, 0, 3), op(RELOAD, 3, 2), op(ADD, 0, 0, 3), op(ADD, 0, 0, 1), end(0));
    }

    private void reloadOfB() {
        about("RELOAD of b into the second helper, likewise;");
        dueBecomes("ADD", op(ADD, 1, 0, 7), op(RELOAD, 3, 5), op(ADD, 1, 0, 3));
        dueBecomes("SUB", op(SUB, 1, 0, 7), op(RELOAD, 3, 5), op(SUB, 1, 0, 3));
        dueBecomes("MUL", op(MUL, 1, 0, 7), op(RELOAD, 3, 5), op(MUL, 1, 0, 3));
        dueBecomes("DIV", op(DIV, 1, 0, 7), op(RELOAD, 3, 5), op(DIV, 1, 0, 3));
        dueBecomes("STORE", plain(STORE, 0, 7), op(RELOAD, 3, 5), plain(STORE, 0, 3));
        dueBecomes("a, then b", plain(STORE, 6, 7), op(RELOAD, 2, 4), op(RELOAD, 3, 5), plain(STORE, 2, 3));
        dueBecomes("one register as both", op(MUL, 1, 7, 7), op(RELOAD, 2, 5), op(RELOAD, 3, 5), op(MUL, 1, 2, 3));
    }

    private void itself() {
        about("itself, with machine registers for registers, the helpers for those in slots, the first helper for d;");
        dueBecomes("NOTHING", op(NOTHING), op(NOTHING));
        dueBecomes("JUMP", op(JUMP, 1), op(JUMP, 1));
        dueBecomes("registers that are machine registers", op(DIV, 1, 1, 0), op(DIV, 1, 1, 0));
        dueBecomes("d in a slot", op(DIV, 5, 0, 1), op(DIV, 2, 0, 1), plain(SPILL, 2, 3));
        dueBecomes("all in slots", op(DIV, 5, 6, 7), op(RELOAD, 2, 4), op(RELOAD, 3, 5), op(DIV, 2, 2, 3),
                plain(SPILL, 2, 3));
        PassPipeline x = taken(op(CONST, 7, 5), op(CONST, 6, 4), op(SUB, 5, 7, 6), plain(STORE, 6, 5), op(LOAD, 4, 6),
                op(ZERO, 7, 4), op(CALL, 3, 4), end(5));
        check.due("other machine registers allocate(4)", 0, () -> x.allocate(4));
        dueHomes("other machine registers", x, 0, 1, 0, 0, 0, 1, 0, 1);
        dueProgram("other machine registers", x, true, op(CONST, 1, 5), op(CONST, 0, 4), op(SUB, 1, 1, 0),
                plain(STORE, 0, 1), op(LOAD, 0, 0), op(ZERO, 7, 0), op(CALL, 0, 0), end(1));
    }

    private void spillOfD() {
        about("SPILL of the first helper to d's slot, if it writes d and that is in a slot.");
        dueBecomes("CONST", op(CONST, 5, MIN), op(CONST, 2, MIN), plain(SPILL, 2, 3));
        dueBecomes("MOVE", op(MOVE, 5, 0), op(MOVE, 2, 0), plain(SPILL, 2, 3));
        dueBecomes("MOVE from slot to slot", op(MOVE, 5, 6), op(RELOAD, 2, 4), op(MOVE, 2, 2), plain(SPILL, 2, 3));
        dueBecomes("ADD", op(ADD, 5, 0, 1), op(ADD, 2, 0, 1), plain(SPILL, 2, 3));
        dueBecomes("SUB", op(SUB, 5, 0, 1), op(SUB, 2, 0, 1), plain(SPILL, 2, 3));
        dueBecomes("MUL", op(MUL, 5, 0, 1), op(MUL, 2, 0, 1), plain(SPILL, 2, 3));
        dueBecomes("DIV", op(DIV, 5, 0, 1), op(DIV, 2, 0, 1), plain(SPILL, 2, 3));
        dueBecomes("LOAD", op(LOAD, 5, 0), op(LOAD, 2, 0), plain(SPILL, 2, 3));
        dueBecomes("CALL", op(CALL, 5, 0), op(CALL, 2, 0), plain(SPILL, 2, 3));
        dueBecomes("the first slot", op(CALL, 2, 0), op(CALL, 2, 0), plain(SPILL, 2, 0));
        dueBecomes("the last slot", op(CALL, 7, 0), op(CALL, 2, 0), plain(SPILL, 2, 5));
        dueBecomes("a STORE writes no register", plain(STORE, 0, 1), plain(STORE, 0, 1));
        dueBecomes("where a ZERO goes is no register", op(ZERO, 5, 0), op(ZERO, 8, 0));
    }

    private void whereJumpsGo() {
        about("JUMP and ZERO go to the first of what the instruction became to which they went.");
        PassPipeline x = taken(op(ZERO, 4, 0), op(CALL, 2, 3), op(SUB, 4, 5, 6), op(JUMP, 7), op(MOVE, 7, 2),
                op(ZERO, 2, 7), op(JUMP, 1), op(ADD, 0, 0, 1), op(SUB, 0, 0, 2), op(SUB, 0, 0, 3), op(SUB, 0, 0, 4),
                op(SUB, 0, 0, 5), op(SUB, 0, 0, 6), op(SUB, 0, 0, 7), end(0));
        check.due("allocate(4)", 6, () -> x.allocate(4));
        dueProgram("allocated", x, true,
                op(ZERO, 9, 0),
                op(RELOAD, 2, 1), op(CALL, 2, 2), plain(SPILL, 2, 0),
                op(RELOAD, 2, 3), op(RELOAD, 3, 4), op(SUB, 2, 2, 3), plain(SPILL, 2, 2),
                op(JUMP, 15),
                op(RELOAD, 2, 0), op(MOVE, 2, 2), plain(SPILL, 2, 5),
                op(RELOAD, 2, 5), op(ZERO, 4, 2),
                op(JUMP, 1),
                op(ADD, 0, 0, 1),
                op(RELOAD, 3, 0), op(SUB, 0, 0, 3), op(RELOAD, 3, 1), op(SUB, 0, 0, 3),
                op(RELOAD, 3, 2), op(SUB, 0, 0, 3), op(RELOAD, 3, 3), op(SUB, 0, 0, 3),
                op(RELOAD, 3, 4), op(SUB, 0, 0, 3), op(RELOAD, 3, 5), op(SUB, 0, 0, 3),
                end(0));
    }

    private void jumpsToThemselves() {
        about("JUMP and ZERO go to the first of what the instruction became to which they went.");
        dueBecomes("a ZERO to itself", op(ZERO, 0, 6), op(RELOAD, 2, 4), op(ZERO, 0, 2));
        PassPipeline x = taken(op(CONST, 2, 5), op(JUMP, 1));
        check.due("a JUMP to itself", 0, () -> x.allocate(2));
        dueProgram("a JUMP to itself", x, true, op(CONST, 0, 5), op(JUMP, 1));
    }

    private void behindADivisionByZero() {
        about("and the other one is live before what follows");
        PassPipeline x = taken(op(CONST, 2, 5), op(CONST, 3, 6), op(CONST, 4, 7), op(CALL, 5, 2), op(CALL, 5, 3),
                op(CALL, 5, 4), op(CALL, 5, 0), op(CALL, 5, 1), op(DIV, 6, 5, 7), end(6));
        check.due("fold", 1, () -> x.pass(FOLD));
        check.due("pack", 1, () -> x.pass(PACK));
        check.due("allocate(4)", 5, () -> x.allocate(4));
        dueHomes("nothing is live behind the last", x, 0, 1, 8, 9, 10, 11, 0, 12);
        check.due("run", 1, () -> x.run(true, 5, 6));
        check.due("run", 1, () -> x.run(false, 5, 6));
    }

    private void theLongest() {
        about("The DRAFT has at most 24 instructions of the kinds 0 .. 12.");
        int[][] rows = new int[24][];
        int[][] due = new int[22 * 4 + 4][];
        for (int i = 0; i < 22; i++) {
            int d = 2 + i % 3;
            int b = 2 + (i + 1) % 3;
            rows[i] = op(ADD, d, d, b);
            due[i * 4] = op(RELOAD, 2, d - 2);
            due[i * 4 + 1] = op(RELOAD, 3, b - 2);
            due[i * 4 + 2] = op(ADD, 2, 2, 3);
            due[i * 4 + 3] = plain(SPILL, 2, d - 2);
        }
        rows[22] = op(ZERO, 23, 3);
        rows[23] = end(2);
        due[22 * 4] = op(RELOAD, 2, 1);
        due[22 * 4 + 1] = op(ZERO, 22 * 4 + 2, 2);
        due[22 * 4 + 2] = op(RELOAD, 2, 0);
        due[22 * 4 + 3] = end(2);
        PassPipeline x = taken(rows);
        check.due("24 instructions, allocate(4)", 3, () -> x.allocate(4));
        dueProgram("24 instructions", x, true, due);
    }
}
