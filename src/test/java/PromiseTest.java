/** Each promise of the document by itself: ordinary inputs, the edges that it names, and wrong inputs. */
final class PromiseTest extends Tester {
    private PromiseTest() {
        super("PromiseTest");
    }

    public static void main(String[] args) {
        PromiseTest test = new PromiseTest();
        test.goThrough();
        test.check.end();
    }

    private void goThrough() {
        newObject();
        instructionKeepsWhatItsKindNames();
        instructionRefuses();
        instructionRefusesTheTwentyFifth();
        take();
        takeRefusesAndEmpties();
        passRefuses();
        foldNumbers();
        foldWays();
        foldDivision();
        foldLoops();
        shareInOneBlock();
        shareBlocks();
        shareKeepsValuesThatNoRegisterHolds();
        drop();
        dropLoops();
        pack();
        packChains();
        allocateWithoutSlots();
        allocateInterference();
        allocateWithSlots();
        allocateRefuses();
        home();
        restore();
        lengthAndLook();
        pokeAndCell();
        runEndings();
        runArithmetic();
        runAllocatedKinds();
        value();
        traced();
        steps();
        theLongestProgram();
        passesOnAnObjectUsedBefore();
        runsOnAnObjectUsedBefore();
    }

    private void newObject() {
        PassPipeline x = new PassPipeline();
        check.due("new: original's length", 0, x.length(false));
        check.due("new: present's length", 0, x.length(true));
        check.due("new: steps", 0, x.steps());
        for (int c = 0; c < 8; c++) {
            check.due("new: cell " + c, 0, x.cell(c));
        }
        check.due("new: value", Check.ELEMENT, x::value);
        check.due("new: traced", Check.ELEMENT, () -> x.traced(0));
        check.due("new: look", Check.ELEMENT, () -> x.look(true, 0, 0));
        check.due("new: home", Check.ELEMENT, () -> x.home(0));
        check.due("new: run original", Check.STATE, () -> x.run(false, 1, 2));
        check.due("new: run present", Check.STATE, () -> x.run(true, 1, 2));
        check.due("new: pass", Check.STATE, () -> x.pass(FOLD));
        check.due("new: allocate", Check.STATE, () -> x.allocate(8));
        check.dueThrow("new: restore", Check.STATE, x::restore);
        check.due("new: take", Check.ARGUMENT, x::take);
        check.due("new: first instruction", 0, () -> x.instruction(RETURN, 0, 0, 0));
    }

    private void instructionKeepsWhatItsKindNames() {
        PassPipeline x = new PassPipeline();
        for (int kind = 0; kind <= 12; kind++) {
            int number = kind;
            check.due("instruction: number", kind, () -> x.instruction(number, 7, 6, 5));
        }
        x.take();
        dueProgram("instruction: named numbers", x, false,
                op(NOTHING), op(CONST, 7, 6), op(MOVE, 7, 6), op(ADD, 7, 6, 5), op(SUB, 7, 6, 5), op(MUL, 7, 6, 5),
                op(DIV, 7, 6, 5), op(LOAD, 7, 6), plain(STORE, 6, 5), op(JUMP, 7), op(ZERO, 7, 6), op(CALL, 7, 6),
                end(6));
        PassPipeline y = new PassPipeline();
        write(y, op(NOTHING, 99, -1, MIN), op(CONST, 0, MAX, 99), op(CONST, 0, MIN, -9), op(MOVE, 0, 0, 8));
        write(y, op(STORE, -1, 0, 0), op(JUMP, 0, 8, 8), op(ZERO, 1, 0, 8), op(CALL, 0, 0, 8), op(LOAD, 0, 0, -1));
        write(y, op(RETURN, 8, 0, 8));
        y.take();
        dueProgram("instruction: what is not named is 0", y, false,
                op(NOTHING), op(CONST, 0, MAX), op(CONST, 0, MIN), op(MOVE, 0, 0), plain(STORE, 0, 0), op(JUMP, 0),
                op(ZERO, 1, 0), op(CALL, 0, 0), op(LOAD, 0, 0), end(0));
    }

    private void instructionRefuses() {
        PassPipeline x = new PassPipeline();
        int[][] wrong = {
            op(-1), op(13), op(14), op(MIN), op(MAX),
            op(CONST, -1), op(CONST, 8), op(MOVE, 8, 0), op(MOVE, 0, 8), op(MOVE, -1, 0), op(MOVE, 0, -1),
            op(ADD, 8, 0, 0), op(ADD, 0, 8, 0), op(ADD, 0, 0, 8), op(SUB, 0, 0, -1), op(SUB, 0, -1, 0),
            op(MUL, 0, 0, 8), op(MUL, -1, 0, 0), op(DIV, 0, 0, 8), op(DIV, 8, 0, 0), op(LOAD, 8, 0), op(LOAD, 0, 8),
            plain(STORE, 8, 0), plain(STORE, 0, 8), plain(STORE, -1, 0), plain(STORE, 0, -1),
            op(JUMP, -1), op(JUMP, 24), op(ZERO, -1, 0), op(ZERO, 24, 0), op(ZERO, 0, 8), op(ZERO, 0, -1),
            op(CALL, 8, 0), op(CALL, 0, 8), end(8), end(-1)};
        for (int[] row : wrong) {
            check.due("instruction: refuses " + java.util.Arrays.toString(row), Check.ARGUMENT,
                    () -> x.instruction(row[0], row[1], row[2], row[3]));
        }
        check.due("instruction: JUMP 23", 0, () -> x.instruction(JUMP, 23, 0, 0));
        check.due("instruction: ZERO 23", 1, () -> x.instruction(ZERO, 23, 7, 0));
    }

    private void instructionRefusesTheTwentyFifth() {
        PassPipeline x = new PassPipeline();
        for (int i = 0; i < 24; i++) {
            x.instruction(RETURN, 0, 0, 0);
        }
        check.due("instruction: 25th", Check.STATE, () -> x.instruction(RETURN, 0, 0, 0));
        check.due("instruction: 25th, wrong too", Check.ARGUMENT, () -> x.instruction(RETURN, 0, 8, 0));
        check.due("instruction: 24 are taken", 24, x::take);
        check.due("instruction: first of the next draft", 0, () -> x.instruction(NOTHING, 0, 0, 0));
    }

    private void take() {
        PassPipeline x = taken(op(CONST, 2, 5), end(2));
        dueProgram("take: original", x, false, op(CONST, 2, 5), end(2));
        dueProgram("take: present", x, true, op(CONST, 2, 5), end(2));
        write(x, op(MOVE, 3, 1), op(ZERO, 3, 0), op(NOTHING));
        dueProgram("take: draft is apart", x, true, op(CONST, 2, 5), end(2));
        write(x, op(JUMP, 0));
        check.due("take: how many", 4, x::take);
        dueProgram("take: anew", x, false, op(MOVE, 3, 1), op(ZERO, 3, 0), op(NOTHING), op(JUMP, 0));
        dueProgram("take: anew", x, true, op(MOVE, 3, 1), op(ZERO, 3, 0), op(NOTHING), op(JUMP, 0));
        check.due("take: draft is empty afterwards", Check.ARGUMENT, x::take);
        x.allocate(8);
        takeInto(x, end(0));
        check.due("take: a new program is not allocated", Check.ELEMENT, () -> x.home(0));
        check.due("take: a new program has passes", 0, () -> x.pass(PACK));
    }

    private void takeRefusesAndEmpties() {
        int[][][] wrong = {
            {op(CONST, 2, 5)}, {op(NOTHING)}, {end(0), op(ZERO, 0, 0)}, {end(0), op(CALL, 0, 0)},
            {op(JUMP, 1)}, {op(ZERO, 2, 0), end(0)}, {op(ZERO, 23, 0), end(0)}, {end(0), op(JUMP, 2)}};
        for (int[][] rows : wrong) {
            PassPipeline x = taken(op(MOVE, 2, 1), end(2));
            x.allocate(8);
            write(x, rows);
            check.due("take: refuses", Check.ARGUMENT, x::take);
            dueProgram("take: refused, original stays", x, false, op(MOVE, 2, 1), end(2));
            check.due("take: refused, present stays", 2, x.length(true));
            check.due("take: refused, allocation stays", 1, () -> x.home(1));
            check.due("take: refused, draft is empty", 0, () -> x.instruction(RETURN, 0, 0, 0));
            check.due("take: after a refusal", 1, x::take);
        }
    }

    private void passRefuses() {
        PassPipeline x = new PassPipeline();
        check.due("pass: none of both", Check.ARGUMENT, () -> x.pass(4));
        check.due("pass: no program", Check.STATE, () -> x.pass(PACK));
        takeInto(x, op(NOTHING), end(0));
        check.due("pass: -1", Check.ARGUMENT, () -> x.pass(-1));
        check.due("pass: 4", Check.ARGUMENT, () -> x.pass(4));
        x.allocate(2);
        for (int pass = 0; pass < 4; pass++) {
            int number = pass;
            check.due("pass: allocated", Check.STATE, () -> x.pass(number));
        }
        check.due("pass: allocated, no such pass", Check.ARGUMENT, () -> x.pass(4));
        dueProgram("pass: refused, nothing changes", x, true, op(NOTHING), end(0));
    }

    private void foldNumbers() {
        PassPipeline x = taken(
                op(CONST, 2, 7), op(CONST, 3, -2), op(ADD, 4, 2, 3), op(SUB, 5, 2, 3), op(MUL, 6, 2, 3),
                op(DIV, 7, 2, 3), op(MOVE, 0, 7), op(ADD, 1, 1, 2), op(LOAD, 2, 6), op(MOVE, 3, 2), op(CALL, 4, 4),
                op(MUL, 5, 4, 7), plain(STORE, 6, 6), end(0));
        duePass("fold: numbers", FOLD, 5, x,
                op(CONST, 2, 7), op(CONST, 3, -2), op(CONST, 4, 5), op(CONST, 5, 9), op(CONST, 6, -14),
                op(CONST, 7, -3), op(CONST, 0, -3), op(ADD, 1, 1, 2), op(LOAD, 2, 6), op(MOVE, 3, 2), op(CALL, 4, 4),
                op(MUL, 5, 4, 7), plain(STORE, 6, 6), end(0));
        dueProgram("fold: the original stays", x, false,
                op(CONST, 2, 7), op(CONST, 3, -2), op(ADD, 4, 2, 3), op(SUB, 5, 2, 3), op(MUL, 6, 2, 3),
                op(DIV, 7, 2, 3), op(MOVE, 0, 7), op(ADD, 1, 1, 2), op(LOAD, 2, 6), op(MOVE, 3, 2), op(CALL, 4, 4),
                op(MUL, 5, 4, 7), plain(STORE, 6, 6), end(0));
        duePass("fold: registers begin with 0, but for the arguments", FOLD, 6,
                taken(op(MOVE, 2, 2), op(MOVE, 3, 3), op(MOVE, 4, 4), op(MOVE, 5, 5), op(MOVE, 6, 6), op(MOVE, 7, 7),
                        op(MOVE, 0, 0), op(MOVE, 1, 1), end(0)),
                op(CONST, 2, 0), op(CONST, 3, 0), op(CONST, 4, 0), op(CONST, 5, 0), op(CONST, 6, 0), op(CONST, 7, 0),
                op(MOVE, 0, 0), op(MOVE, 1, 1), end(0));
        duePass("fold: wraps round", FOLD, 2,
                taken(op(CONST, 2, MIN), op(CONST, 3, -1), op(DIV, 4, 2, 3), op(ADD, 5, 2, 3), end(4)),
                op(CONST, 2, MIN), op(CONST, 3, -1), op(CONST, 4, MIN), op(CONST, 5, MAX), end(4));
        duePass("fold: no sums of anything", FOLD, 0,
                taken(op(SUB, 3, 0, 0), op(MUL, 4, 2, 0), op(ADD, 5, 0, 2), end(3)),
                op(SUB, 3, 0, 0), op(MUL, 4, 2, 0), op(ADD, 5, 0, 2), end(3));
    }

    private void foldWays() {
        duePass("fold: ZERO of 0 is a JUMP, what it jumps over is not reached", FOLD, 3,
                taken(op(ZERO, 3, 2), op(CONST, 3, 1), end(3), end(2)),
                op(JUMP, 3), op(NOTHING), op(NOTHING), end(2));
        duePass("fold: ZERO of another number is NOTHING", FOLD, 2,
                taken(op(CONST, 2, 4), op(ZERO, 4, 2), end(0), op(NOTHING), end(2)),
                op(CONST, 2, 4), op(NOTHING), end(0), op(NOTHING), op(NOTHING));
        duePass("fold: ways with the same number", FOLD, 1,
                taken(op(ZERO, 3, 0), op(CONST, 2, 6), op(JUMP, 4), op(CONST, 2, 6), op(MOVE, 3, 2), end(3)),
                op(ZERO, 3, 0), op(CONST, 2, 6), op(JUMP, 4), op(CONST, 2, 6), op(CONST, 3, 6), end(3));
        duePass("fold: ways with different numbers", FOLD, 0,
                taken(op(ZERO, 3, 0), op(CONST, 2, 6), op(JUMP, 4), op(CONST, 2, 5), op(MOVE, 3, 2), end(3)),
                op(ZERO, 3, 0), op(CONST, 2, 6), op(JUMP, 4), op(CONST, 2, 5), op(MOVE, 3, 2), end(3));
        duePass("fold: a way with anything", FOLD, 0,
                taken(op(ZERO, 3, 0), op(LOAD, 2, 0), op(JUMP, 4), op(CONST, 2, 5), op(MOVE, 3, 2), end(3)),
                op(ZERO, 3, 0), op(LOAD, 2, 0), op(JUMP, 4), op(CONST, 2, 5), op(MOVE, 3, 2), end(3));
        duePass("fold: another way's writes don't count", FOLD, 2,
                taken(op(ZERO, 3, 0), op(LOAD, 2, 0), end(2), op(MOVE, 3, 2), op(MOVE, 4, 2), end(3)),
                op(ZERO, 3, 0), op(LOAD, 2, 0), end(2), op(CONST, 3, 0), op(CONST, 4, 0), end(3));
        duePass("fold: a number behind anything", FOLD, 1,
                taken(op(LOAD, 2, 0), op(CONST, 2, 5), op(MOVE, 3, 2), end(3)),
                op(LOAD, 2, 0), op(CONST, 2, 5), op(CONST, 3, 5), end(3));
        duePass("fold: ZERO tells nothing of its register", FOLD, 0,
                taken(op(ZERO, 2, 0), end(1), op(MOVE, 2, 0), end(2)),
                op(ZERO, 2, 0), end(1), op(MOVE, 2, 0), end(2));
    }

    private void foldDivision() {
        duePass("fold: nothing follows a division by 0", FOLD, 2,
                taken(op(DIV, 2, 0, 3), op(MOVE, 4, 5), end(4)),
                op(DIV, 2, 0, 3), op(NOTHING), op(NOTHING));
        PassPipeline x = taken(op(CONST, 2, 3), op(DIV, 2, 2, 3), end(2));
        duePass("fold: a division of numbers by 0 stays", FOLD, 1, x, op(CONST, 2, 3), op(DIV, 2, 2, 3), op(NOTHING));
        duePass("fold: a division may be last", PACK, 1, x, op(CONST, 2, 3), op(DIV, 2, 2, 3));
        duePass("fold: again", FOLD, 0, x, op(CONST, 2, 3), op(DIV, 2, 2, 3));
        duePass("fold: shared", SHARE, 0, x, op(CONST, 2, 3), op(DIV, 2, 2, 3));
        duePass("fold: dropped", DROP, 0, x, op(CONST, 2, 3), op(DIV, 2, 2, 3));
        check.due("fold: allocated", 0, () -> x.allocate(4));
        check.due("fold: a division that is last", 1, () -> x.run(true, 0, 0));
        duePass("fold: a division by anything", FOLD, 0,
                taken(op(DIV, 2, 3, 0), op(MOVE, 4, 2), end(4)),
                op(DIV, 2, 3, 0), op(MOVE, 4, 2), end(4));
        duePass("fold: a cell that is not there is not looked at", FOLD, 0,
                taken(op(CONST, 2, 8), op(LOAD, 3, 2), end(3)),
                op(CONST, 2, 8), op(LOAD, 3, 2), end(3));
    }

    private void foldLoops() {
        duePass("fold: a number that a loop keeps", FOLD, 1,
                taken(op(CONST, 2, 3), op(ZERO, 5, 0), op(MOVE, 2, 2), op(SUB, 0, 0, 1), op(JUMP, 1), end(2)),
                op(CONST, 2, 3), op(ZERO, 5, 0), op(CONST, 2, 3), op(SUB, 0, 0, 1), op(JUMP, 1), end(2));
        duePass("fold: a number that a loop changes", FOLD, 0,
                taken(op(CONST, 3, 1), op(ADD, 2, 2, 3), op(ZERO, 4, 0), op(JUMP, 1), end(2)),
                op(CONST, 3, 1), op(ADD, 2, 2, 3), op(ZERO, 4, 0), op(JUMP, 1), end(2));
        duePass("fold: the way back to instruction 0 counts", FOLD, 0,
                taken(op(MOVE, 4, 2), op(CONST, 2, 1), op(ZERO, 4, 0), op(JUMP, 0), end(4)),
                op(MOVE, 4, 2), op(CONST, 2, 1), op(ZERO, 4, 0), op(JUMP, 0), end(4));
        duePass("fold: numbers that are lost one after the other, a round each", FOLD, 0,
                taken(op(ZERO, 7, 0), op(MOVE, 6, 5), op(MOVE, 5, 4), op(MOVE, 4, 3), op(MOVE, 3, 2), op(CONST, 2, 1),
                        op(JUMP, 0), end(6)),
                op(ZERO, 7, 0), op(MOVE, 6, 5), op(MOVE, 5, 4), op(MOVE, 4, 3), op(MOVE, 3, 2), op(CONST, 2, 1),
                op(JUMP, 0), end(6));
        duePass("fold: a way that opens only when a number is lost", FOLD, 1,
                taken(op(ZERO, 4, 2), op(CONST, 3, 9), op(MOVE, 5, 3), end(5), op(CONST, 2, 1), op(ZERO, 0, 0),
                        op(JUMP, 0)),
                op(ZERO, 4, 2), op(CONST, 3, 9), op(CONST, 5, 9), end(5), op(CONST, 2, 1), op(ZERO, 0, 0),
                op(JUMP, 0));
    }

    private void shareInOneBlock() {
        duePass("share: sums and products in either order, differences not", SHARE, 2,
                taken(op(ADD, 2, 0, 1), op(ADD, 3, 1, 0), op(MUL, 4, 0, 1), op(MUL, 5, 1, 0), op(SUB, 6, 0, 1),
                        op(SUB, 7, 1, 0), end(7)),
                op(ADD, 2, 0, 1), op(MOVE, 3, 2), op(MUL, 4, 0, 1), op(MOVE, 5, 4), op(SUB, 6, 0, 1),
                op(SUB, 7, 1, 0), end(7));
        duePass("share: all reads", SHARE, 7,
                taken(op(MOVE, 5, 1), op(MOVE, 2, 5), op(ADD, 3, 5, 2), op(DIV, 4, 2, 5), op(LOAD, 4, 5),
                        plain(STORE, 5, 2), op(CALL, 4, 2), op(ZERO, 8, 5), end(2)),
                op(MOVE, 5, 1), op(MOVE, 2, 1), op(ADD, 3, 1, 1), op(DIV, 4, 1, 1), op(LOAD, 4, 1),
                plain(STORE, 1, 1), op(CALL, 4, 1), op(ZERO, 8, 1), end(2));
        duePass("share: a RETURN reads, too", SHARE, 1, taken(op(MOVE, 5, 1), end(5)), op(MOVE, 5, 1), end(1));
        duePass("share: what is there already", SHARE, 4,
                taken(op(MOVE, 3, 3), op(CONST, 2, 9), op(CONST, 2, 9), op(MOVE, 4, 2), op(MOVE, 2, 4),
                        op(CONST, 4, 9), end(1)),
                op(NOTHING), op(CONST, 2, 9), op(NOTHING), op(MOVE, 4, 2), op(NOTHING), op(NOTHING), end(1));
        duePass("share: DIV, LOAD and CALL are new each time", SHARE, 0,
                taken(op(DIV, 2, 0, 1), op(DIV, 3, 0, 1), op(LOAD, 4, 0), op(LOAD, 5, 0), op(CALL, 6, 0),
                        op(CALL, 7, 0), op(ADD, 2, 2, 4), op(ADD, 3, 3, 4), op(ADD, 4, 6, 5), op(ADD, 5, 7, 5),
                        end(2)),
                op(DIV, 2, 0, 1), op(DIV, 3, 0, 1), op(LOAD, 4, 0), op(LOAD, 5, 0), op(CALL, 6, 0),
                op(CALL, 7, 0), op(ADD, 2, 2, 4), op(ADD, 3, 3, 4), op(ADD, 4, 6, 5), op(ADD, 5, 7, 5),
                end(2));
        duePass("share: registers that begin with 0 are not the same", SHARE, 0,
                taken(op(CONST, 4, 0), op(ADD, 5, 2, 0), op(ADD, 6, 3, 0), end(6)),
                op(CONST, 4, 0), op(ADD, 5, 2, 0), op(ADD, 6, 3, 0), end(6));
        duePass("share: kinds are apart", SHARE, 0,
                taken(op(ADD, 2, 0, 0), op(SUB, 3, 0, 0), op(MUL, 4, 0, 0), op(CONST, 5, 0), end(1)),
                op(ADD, 2, 0, 0), op(SUB, 3, 0, 0), op(MUL, 4, 0, 0), op(CONST, 5, 0), end(1));
    }

    private void shareBlocks() {
        duePass("share: a block behind ZERO", SHARE, 0,
                taken(op(CONST, 2, 9), op(ZERO, 3, 0), op(CONST, 3, 9), end(3)),
                op(CONST, 2, 9), op(ZERO, 3, 0), op(CONST, 3, 9), end(3));
        duePass("share: a block where a ZERO goes", SHARE, 0,
                taken(op(ZERO, 2, 0), op(CONST, 2, 9), op(CONST, 3, 9), end(3)),
                op(ZERO, 2, 0), op(CONST, 2, 9), op(CONST, 3, 9), end(3));
        duePass("share: a block where a JUMP goes", SHARE, 0,
                taken(op(CONST, 2, 9), op(CONST, 3, 9), op(ZERO, 4, 0), op(JUMP, 1), end(3)),
                op(CONST, 2, 9), op(CONST, 3, 9), op(ZERO, 4, 0), op(JUMP, 1), end(3));
        duePass("share: values of an earlier block are forgotten", SHARE, 0,
                taken(op(CONST, 2, 9), op(JUMP, 2), op(LOAD, 3, 0), op(CONST, 4, 9), end(4)),
                op(CONST, 2, 9), op(JUMP, 2), op(LOAD, 3, 0), op(CONST, 4, 9), end(4));
        duePass("share: blocks behind JUMP and RETURN", SHARE, 0,
                taken(op(CONST, 2, 9), op(JUMP, 0), op(CONST, 3, 9), end(1), op(CONST, 2, 9), end(3)),
                op(CONST, 2, 9), op(JUMP, 0), op(CONST, 3, 9), end(1), op(CONST, 2, 9), end(3));
        duePass("share: DIV, STORE and CALL end no block", SHARE, 1,
                taken(op(CONST, 2, 9), op(DIV, 4, 0, 1), plain(STORE, 0, 1), op(CALL, 5, 0), op(CONST, 3, 9), end(1)),
                op(CONST, 2, 9), op(DIV, 4, 0, 1), plain(STORE, 0, 1), op(CALL, 5, 0), op(MOVE, 3, 2), end(1));
    }

    private void shareKeepsValuesThatNoRegisterHolds() {
        duePass("share: a sum made anew is the same value", SHARE, 2,
                taken(op(ADD, 2, 0, 1), op(MUL, 3, 2, 2), op(LOAD, 2, 0), op(ADD, 4, 1, 0), op(MUL, 5, 4, 4),
                        end(5)),
                op(ADD, 2, 0, 1), op(MUL, 3, 2, 2), op(LOAD, 2, 0), op(ADD, 4, 1, 0), op(MOVE, 5, 3), end(3));
        duePass("share: a number made anew is the same value", SHARE, 1,
                taken(op(CONST, 2, 9), op(ADD, 3, 2, 0), op(CONST, 2, 8), op(CONST, 4, 9), op(ADD, 5, 0, 4), end(1)),
                op(CONST, 2, 9), op(ADD, 3, 2, 0), op(CONST, 2, 8), op(CONST, 4, 9), op(MOVE, 5, 3), end(1));
        duePass("share: a register that it overwrites still counts", SHARE, 1,
                taken(op(ADD, 2, 0, 1), op(ADD, 2, 2, 1), op(ADD, 3, 0, 1), op(ADD, 3, 3, 1), end(1)),
                op(ADD, 2, 0, 1), op(ADD, 2, 2, 1), op(ADD, 3, 0, 1), op(MOVE, 3, 2), end(1));
    }

    private void drop() {
        duePass("drop: what nobody reads, and then what only that read", DROP, 4,
                taken(op(CONST, 2, 1), op(MOVE, 3, 2), op(ADD, 4, 3, 3), op(MUL, 5, 4, 4), op(CONST, 6, 1), end(6)),
                op(NOTHING), op(NOTHING), op(NOTHING), op(NOTHING), op(CONST, 6, 1), end(6));
        duePass("drop: DIV, LOAD and CALL stay, and what they read", DROP, 1,
                taken(op(CONST, 2, 1), op(DIV, 3, 0, 2), op(LOAD, 3, 2), op(CALL, 3, 2), op(SUB, 3, 2, 2), end(0)),
                op(CONST, 2, 1), op(DIV, 3, 0, 2), op(LOAD, 3, 2), op(CALL, 3, 2), op(NOTHING), end(0));
        duePass("drop: what is overwritten", DROP, 1,
                taken(op(CONST, 2, 1), op(CONST, 2, 2), end(2)), op(NOTHING), op(CONST, 2, 2), end(2));
        duePass("drop: DIV, LOAD and CALL overwrite, too", DROP, 3,
                taken(op(CONST, 2, 1), op(CONST, 3, 1), op(CONST, 4, 1), op(DIV, 2, 0, 1), op(LOAD, 3, 0),
                        op(CALL, 4, 0), op(ADD, 2, 2, 3), op(ADD, 2, 2, 4), end(2)),
                op(NOTHING), op(NOTHING), op(NOTHING), op(DIV, 2, 0, 1), op(LOAD, 3, 0),
                op(CALL, 4, 0), op(ADD, 2, 2, 3), op(ADD, 2, 2, 4), end(2));
        duePass("drop: STORE reads both", DROP, 0,
                taken(op(CONST, 2, 1), op(CONST, 3, 2), plain(STORE, 2, 3), end(0)),
                op(CONST, 2, 1), op(CONST, 3, 2), plain(STORE, 2, 3), end(0));
        duePass("drop: either way of a ZERO may read", DROP, 0,
                taken(op(CONST, 2, 1), op(CONST, 3, 2), op(ZERO, 4, 0), end(2), end(3)),
                op(CONST, 2, 1), op(CONST, 3, 2), op(ZERO, 4, 0), end(2), end(3));
        duePass("drop: behind a RETURN and a JUMP nothing is read", DROP, 2,
                taken(op(CONST, 2, 1), op(CONST, 3, 2), op(ZERO, 5, 0), end(0), end(2), op(JUMP, 3)),
                op(NOTHING), op(NOTHING), op(ZERO, 5, 0), end(0), end(2), op(JUMP, 3));
    }

    private void dropLoops() {
        duePass("drop: read in the next round of a loop", DROP, 0,
                taken(op(ADD, 2, 2, 1), op(ZERO, 3, 0), op(JUMP, 0), end(2)),
                op(ADD, 2, 2, 1), op(ZERO, 3, 0), op(JUMP, 0), end(2));
        duePass("drop: a loop without an end reads nothing", DROP, 1,
                taken(op(CONST, 2, 2), op(JUMP, 0)), op(NOTHING), op(JUMP, 0));
        duePass("drop: what reads only itself is live", DROP, 0,
                taken(op(ADD, 2, 2, 1), op(JUMP, 0)), op(ADD, 2, 2, 1), op(JUMP, 0));
    }

    private void pack() {
        duePass("pack: NOTHINGs, and where jumps go then", PACK, 4,
                taken(op(NOTHING), op(ZERO, 4, 0), op(NOTHING), op(CONST, 2, 1), op(NOTHING), op(NOTHING), end(2)),
                op(ZERO, 2, 0), op(CONST, 2, 1), end(2));
        duePass("pack: a JUMP to what is behind it", PACK, 2,
                taken(op(JUMP, 2), op(NOTHING), op(MOVE, 2, 0), end(2)), op(MOVE, 2, 0), end(2));
        duePass("pack: a JUMP further on stays", PACK, 0,
                taken(op(JUMP, 2), op(MOVE, 2, 0), end(2)), op(JUMP, 2), op(MOVE, 2, 0), end(2));
        duePass("pack: a ZERO to what is behind it stays", PACK, 0,
                taken(op(ZERO, 1, 0), end(2)), op(ZERO, 1, 0), end(2));
        duePass("pack: a JUMP to itself stays", PACK, 1, taken(op(NOTHING), op(JUMP, 0)), op(JUMP, 0));
        PassPipeline x = taken(op(CONST, 2, 1), op(JUMP, 3), op(NOTHING), op(JUMP, 4), end(2));
        duePass("pack: by what is behind before any is taken out", PACK, 2, x, op(CONST, 2, 1), op(JUMP, 2), end(2));
        duePass("pack: the rest in the next pass", PACK, 1, x, op(CONST, 2, 1), end(2));
        duePass("pack: and then no more", PACK, 0, x, op(CONST, 2, 1), end(2));
    }

    private void packChains() {
        duePass("pack: JUMPs and ZEROs go on behind JUMPs", PACK, 0,
                taken(op(ZERO, 3, 0), op(JUMP, 5), end(0), op(JUMP, 1), op(MOVE, 2, 0), end(1)),
                op(ZERO, 5, 0), op(JUMP, 5), end(0), op(JUMP, 5), op(MOVE, 2, 0), end(1));
        duePass("pack: past NOTHING on the way", PACK, 1,
                taken(op(ZERO, 2, 0), end(0), op(NOTHING), op(JUMP, 5), end(1), end(2)),
                op(ZERO, 4, 0), end(0), op(JUMP, 4), end(1), end(2));
        duePass("pack: no further at a ZERO", PACK, 0,
                taken(op(ZERO, 2, 0), end(0), op(ZERO, 3, 1), end(1)),
                op(ZERO, 2, 0), end(0), op(ZERO, 3, 1), end(1));
        duePass("pack: round a ring of JUMPs, the first one 24 times before the next", PACK, 0,
                taken(op(JUMP, 1), op(JUMP, 2), op(JUMP, 0)), op(JUMP, 0), op(JUMP, 0), op(JUMP, 0));
        int[][] chain = new int[24][];
        int[][] due = new int[24][];
        for (int i = 0; i < 24; i++) {
            chain[i] = op(JUMP, i - 1);
            due[i] = op(JUMP, 1);
        }
        chain[0] = op(JUMP, 23);
        chain[1] = end(0);
        due[1] = end(0);
        int[][] left = new int[23][];
        System.arraycopy(due, 1, left, 0, 23);
        for (int[] row : left) {
            row[1] = 0;
        }
        duePass("pack: the longest chain", PACK, 1, taken(chain), left);
    }

    private void allocateWithoutSlots() {
        PassPipeline x = taken(op(CONST, 5, 4), op(ADD, 6, 5, 0), op(NOTHING), op(ZERO, 5, 6), op(MOVE, 7, 6),
                end(7));
        check.due("allocate: none in slots", 0, () -> x.allocate(3));
        dueHomes("allocate: registers that don't interfere share", x, 0, 1, 0, 0, 0, 1, 0, 2);
        dueProgram("allocate: without slots", x, true, op(CONST, 1, 4), op(ADD, 0, 1, 0), op(NOTHING), op(ZERO, 5, 0),
                op(MOVE, 2, 0), end(2));
        dueProgram("allocate: the original stays", x, false, op(CONST, 5, 4), op(ADD, 6, 5, 0), op(NOTHING),
                op(ZERO, 5, 6), op(MOVE, 7, 6), end(7));
        PassPipeline y = taken(end(1));
        check.due("allocate: to 2", 0, () -> y.allocate(2));
        dueHomes("allocate: nothing interferes but the arguments", y, 0, 1, 0, 0, 0, 0, 0, 0);
    }

    private void allocateInterference() {
        PassPipeline x = taken(op(ADD, 2, 3, 4), end(2));
        check.due("allocate: live at the beginning", 0, () -> x.allocate(4));
        dueHomes("allocate: live at the beginning", x, 0, 1, 0, 2, 3, 0, 0, 0);
        PassPipeline y = taken(op(MOVE, 2, 0), op(ADD, 3, 2, 0), op(SUB, 3, 3, 1), end(3));
        check.due("allocate: a MOVE's registers", 0, () -> y.allocate(4));
        dueHomes("allocate: a MOVE's registers don't interfere by it", y, 0, 1, 0, 0, 0, 0, 0, 0);
        PassPipeline z = taken(op(ADD, 2, 0, 4), op(ADD, 3, 2, 0), op(SUB, 3, 3, 1), end(3));
        check.due("allocate: others do", 0, () -> z.allocate(4));
        dueHomes("allocate: others do", z, 0, 1, 2, 0, 2, 0, 0, 0);
        PassPipeline u = taken(op(CONST, 2, 5), op(LOAD, 3, 0), op(SUB, 4, 0, 1), end(4));
        check.due("allocate: writes that nobody reads", 0, () -> u.allocate(4));
        dueHomes("allocate: a write that nobody reads interferes, too", u, 0, 1, 2, 2, 0, 0, 0, 0);
        PassPipeline v = taken(op(JUMP, 2), op(MOVE, 2, 5), op(ADD, 3, 0, 1), op(ADD, 3, 3, 0), end(3));
        check.due("allocate: what is not reached counts", 0, () -> v.allocate(3));
        dueHomes("allocate: what is not reached counts", v, 0, 1, 2, 1, 0, 0, 0, 0);
        PassPipeline w = taken(op(CONST, 7, 1), op(CONST, 6, 2), op(CONST, 5, 3), op(ADD, 5, 5, 6), op(ADD, 5, 5, 7),
                op(ADD, 5, 5, 0), end(5));
        check.due("allocate: in the order of registers", 0, () -> w.allocate(4));
        dueHomes("allocate: in the order of registers", w, 0, 1, 0, 0, 0, 1, 2, 3);
    }

    /** Register 2 finds a machine register when there are four, none when two of these are helpers. */
    private static int[][] crowded() {
        return new int[][] {
            op(CONST, 2, 10), op(CONST, 3, 20), op(CONST, 4, 30), op(SUB, 4, 3, 4), op(MUL, 3, 3, 3),
            plain(STORE, 1, 4), op(LOAD, 2, 1), op(ZERO, 9, 2), op(MOVE, 3, 1), op(CALL, 2, 3), op(ADD, 2, 2, 0),
            op(ADD, 4, 4, 2), op(ADD, 3, 3, 4), op(JUMP, 14), end(3)};
    }

    private void allocateWithSlots() {
        PassPipeline x = taken(crowded());
        check.due("allocate: 8 need no slots", 0, () -> x.allocate(8));
        x.restore();
        check.due("allocate: 5 need no slots", 0, () -> x.allocate(5));
        x.restore();
        check.due("allocate: 4 need slots for three", 3, () -> x.allocate(4));
        dueHomes("allocate: slots in order", x, 0, 1, 8, 9, 10, 0, 0, 0);
        dueProgram("allocate: with slots", x, true,
                op(CONST, 2, 10), plain(SPILL, 2, 0),
                op(CONST, 2, 20), plain(SPILL, 2, 1),
                op(CONST, 2, 30), plain(SPILL, 2, 2),
                op(RELOAD, 2, 1), op(RELOAD, 3, 2), op(SUB, 2, 2, 3), plain(SPILL, 2, 2),
                op(RELOAD, 2, 1), op(RELOAD, 3, 1), op(MUL, 2, 2, 3), plain(SPILL, 2, 1),
                op(RELOAD, 3, 2), plain(STORE, 1, 3),
                op(LOAD, 2, 1), plain(SPILL, 2, 0),
                op(RELOAD, 2, 0), op(ZERO, 22, 2),
                op(MOVE, 2, 1), plain(SPILL, 2, 1),
                op(RELOAD, 2, 1), op(CALL, 2, 2), plain(SPILL, 2, 0),
                op(RELOAD, 2, 0), op(ADD, 2, 2, 0), plain(SPILL, 2, 0),
                op(RELOAD, 2, 2), op(RELOAD, 3, 0), op(ADD, 2, 2, 3), plain(SPILL, 2, 2),
                op(RELOAD, 2, 1), op(RELOAD, 3, 2), op(ADD, 2, 2, 3), plain(SPILL, 2, 1),
                op(JUMP, 37),
                op(RELOAD, 2, 1), end(2));
        PassPipeline y = taken(op(CONST, 2, 1), op(CONST, 3, 2), op(CONST, 4, 3), op(CONST, 5, 4), op(ADD, 2, 2, 3),
                op(ADD, 2, 2, 4), op(ADD, 2, 2, 5), op(ADD, 2, 2, 0), op(ADD, 2, 2, 1), end(2));
        check.due("allocate: 5 of which 2 help", 3, () -> y.allocate(5));
        dueHomes("allocate: some in slots", y, 0, 1, 2, 8, 9, 10, 0, 0);
        check.due("allocate: the second helper is k - 1", 4, y.look(true, 7, 1));
        check.due("allocate: the first helper is k - 2", 3, y.look(true, 1, 1));
        check.due("allocate: runs as before", 0, () -> y.run(true, 100, 1000));
        check.due("allocate: runs as before", 1110, y::value);
    }

    private void allocateRefuses() {
        PassPipeline x = new PassPipeline();
        check.due("allocate: k 1 and no program", Check.ARGUMENT, () -> x.allocate(1));
        check.due("allocate: no program", Check.STATE, () -> x.allocate(2));
        takeInto(x, crowded());
        for (int wrong : new int[] {1, 9, 0, -1, MIN, MAX}) {
            check.due("allocate: k " + wrong, Check.ARGUMENT, () -> x.allocate(wrong));
        }
        check.due("allocate: k 2 is too few", Check.STATE, () -> x.allocate(2));
        check.due("allocate: k 3 is too few", Check.STATE, () -> x.allocate(3));
        dueProgram("allocate: refused, nothing is done", x, true, crowded());
        check.due("allocate: refused, not allocated", Check.ELEMENT, () -> x.home(2));
        check.due("allocate: refused, passes go on", 0, () -> x.pass(FOLD) * 0);
        x.restore();
        check.due("allocate: k 4", 3, () -> x.allocate(4));
        check.due("allocate: twice", Check.STATE, () -> x.allocate(8));
        check.due("allocate: twice, no such k", Check.ARGUMENT, () -> x.allocate(9));
        check.due("allocate: twice, homes stay", 10, () -> x.home(4));
    }

    private void home() {
        PassPipeline x = new PassPipeline();
        check.due("home: no such register, no program", Check.ARGUMENT, () -> x.home(8));
        check.due("home: no program", Check.ELEMENT, () -> x.home(7));
        takeInto(x, crowded());
        check.due("home: not allocated", Check.ELEMENT, () -> x.home(0));
        x.allocate(4);
        check.due("home: -1", Check.ARGUMENT, () -> x.home(-1));
        check.due("home: 8", Check.ARGUMENT, () -> x.home(8));
        check.due("home: a machine register", 1, () -> x.home(1));
        check.due("home: a slot", 9, () -> x.home(3));
        x.restore();
        check.due("home: restored", Check.ELEMENT, () -> x.home(3));
        x.allocate(8);
        check.due("home: of the latest allocation", 3, () -> x.home(3));
    }

    private void restore() {
        PassPipeline x = new PassPipeline();
        check.dueThrow("restore: no program", Check.STATE, x::restore);
        write(x, op(CONST, 2, 1));
        check.dueThrow("restore: a draft is no program", Check.STATE, x::restore);
        write(x, op(NOTHING), end(0));
        x.take();
        check.due("restore: dropped", 1, () -> x.pass(DROP));
        check.due("restore: packed", 2, () -> x.pass(PACK));
        check.dueThrow("restore", 0, x::restore);
        dueProgram("restore: the original again", x, true, op(CONST, 2, 1), op(NOTHING), end(0));
        x.allocate(8);
        x.restore();
        check.due("restore: passes go again", 1, () -> x.pass(DROP));
        dueProgram("restore: the original was not touched", x, false, op(CONST, 2, 1), op(NOTHING), end(0));
    }

    private void lengthAndLook() {
        PassPipeline x = new PassPipeline();
        write(x, op(NOTHING), op(ADD, 3, 4, 5), end(3));
        check.due("length: of no original", 0, x.length(false));
        check.due("length: of no present", 0, x.length(true));
        check.due("look: no program", Check.ELEMENT, () -> x.look(false, 0, 3));
        check.due("look: no program, no such part", Check.ARGUMENT, () -> x.look(false, 0, 4));
        x.take();
        x.pass(PACK);
        check.due("length: of the original", 3, x.length(false));
        check.due("length: of the present", 2, x.length(true));
        int[] row = {ADD, 3, 4, 5};
        for (int w = 0; w < 4; w++) {
            int what = w;
            check.due("look: at the original", row[w], () -> x.look(false, 1, what));
            check.due("look: at the present", row[w], () -> x.look(true, 0, what));
            check.due("look: behind the original", Check.ELEMENT, () -> x.look(false, 3, what));
            check.due("look: behind the present", Check.ELEMENT, () -> x.look(true, 2, what));
            check.due("look: before", Check.ELEMENT, () -> x.look(true, -1, what));
        }
        check.due("look: what -1", Check.ARGUMENT, () -> x.look(true, 0, -1));
        check.due("look: what 4", Check.ARGUMENT, () -> x.look(true, 0, 4));
        check.due("look: neither is there", Check.ARGUMENT, () -> x.look(true, 2, 4));
    }

    private void pokeAndCell() {
        PassPipeline x = new PassPipeline();
        check.dueThrow("poke: -1", Check.ARGUMENT, () -> x.poke(-1, 0));
        check.dueThrow("poke: 8", Check.ARGUMENT, () -> x.poke(8, 0));
        check.due("cell: -1", Check.ARGUMENT, () -> x.cell(-1));
        check.due("cell: 8", Check.ARGUMENT, () -> x.cell(8));
        check.dueThrow("poke: 0", 0, () -> x.poke(0, MIN));
        check.dueThrow("poke: 7", 0, () -> x.poke(7, MAX));
        check.due("cell: what it begins with without a run", MIN, () -> x.cell(0));
        check.due("cell: what it begins with without a run", MAX, () -> x.cell(7));
        takeInto(x, plain(STORE, 0, 1), op(LOAD, 2, 0), end(2));
        check.due("cell: still without a run", MAX, () -> x.cell(7));
        x.run(false, 7, 5);
        check.due("cell: stored", 5, () -> x.cell(7));
        check.due("cell: not stored", MIN, () -> x.cell(0));
        x.poke(7, 6);
        x.poke(0, 4);
        check.due("cell: of the latest run, not of now", 5, () -> x.cell(7));
        check.due("cell: of the latest run, not of now", MIN, () -> x.cell(0));
        x.run(true, 1, 3);
        check.due("cell: each run begins anew", 6, () -> x.cell(7));
        check.due("cell: poked", 4, () -> x.cell(0));
        check.due("cell: stored", 3, () -> x.cell(1));
        takeInto(x, op(JUMP, 0));
        check.due("cell: a new program is no run", 3, () -> x.cell(1));
        takeInto(x, plain(STORE, 0, 1), op(DIV, 2, 0, 2), end(0));
        x.run(false, 2, 9);
        check.due("cell: of a run that ended otherwise", 9, () -> x.cell(2));
    }

    private void dueRun(String test, PassPipeline x, int x0, int y0, int ending, int steps) {
        check.due("run: " + test, ending, () -> x.run(false, x0, y0));
        check.due("run: steps of " + test, steps, x.steps());
    }

    private void runEndings() {
        PassPipeline x = new PassPipeline();
        check.due("run: no original", Check.STATE, () -> x.run(false, 0, 0));
        check.due("run: no present", Check.STATE, () -> x.run(true, 0, 0));
        takeInto(x, op(DIV, 2, 0, 1), end(2));
        dueRun("division by 0", x, 5, 0, 1, 0);
        dueRun("division", x, 5, 2, 0, 2);
        takeInto(x, op(NOTHING), op(LOAD, 2, 0), plain(STORE, 1, 2), end(2));
        dueRun("LOAD of cell -1", x, -1, 0, 2, 1);
        dueRun("LOAD of cell 8", x, 8, 0, 2, 1);
        dueRun("STORE to cell -1", x, 7, -1, 2, 2);
        dueRun("STORE to cell 8", x, 0, 8, 2, 2);
        dueRun("LOAD and STORE", x, 0, 7, 0, 4);
        takeInto(x, op(CALL, 2, 0), op(JUMP, 0));
        dueRun("CALL with 16 in the trace", x, 0, 0, 4, 32);
        takeInto(x, op(JUMP, 0));
        dueRun("400 instructions", x, 0, 0, 3, 400);
        takeInto(x, op(CONST, 2, 1), op(CONST, 3, 199), op(SUB, 3, 3, 2), op(ZERO, 5, 3), op(JUMP, 2), end(3));
        dueRun("spent in a long loop", x, 0, 0, 3, 400);
        runAtTheLimit();
    }

    /** A loop of 4 instructions, 99 times round, then 3 or 4 more and the one that ends it. */
    private void runAtTheLimit() {
        int[] one = op(CONST, 2, 1);
        int[] count = op(CONST, 3, 99);
        int[][] loop = {op(SUB, 3, 3, 2), op(NOTHING), op(ZERO, 6, 3), op(JUMP, 2)};
        PassPipeline x = taken(one, count, loop[0], loop[1], loop[2], loop[3], op(NOTHING), op(NOTHING), end(1));
        // 2 + 98 * 4 + 3 + 2 are done before the RETURN, which is number 400.
        dueRun("RETURN is number 400", x, 0, 77, 0, 400);
        check.due("run: RETURN is number 400", 77, x::value);
        int[][][] late = {{end(1)}, {op(DIV, 5, 0, 5), end(1)}, {plain(STORE, 0, 0), end(1)}};
        for (int[][] rows : late) {
            PassPipeline y = new PassPipeline();
            write(y, one, count, loop[0], loop[1], loop[2], loop[3], op(NOTHING), op(NOTHING), op(NOTHING));
            takeInto(y, rows);
            dueRun("spent is looked at first", y, -1, 0, 3, 400);
        }
    }

    private void dueValue(String test, int due, int x0, int y0, int[]... rows) {
        PassPipeline x = taken(rows);
        check.due("run: " + test, 0, () -> x.run(false, x0, y0));
        check.due("run: value of " + test, due, x::value);
    }

    private void runArithmetic() {
        dueValue("CONST", MIN, 1, 2, op(CONST, 7, MIN), end(7));
        dueValue("MOVE", 2, 1, 2, op(MOVE, 7, 1), end(7));
        dueValue("ADD", MIN, MAX, 1, op(ADD, 2, 0, 1), end(2));
        dueValue("SUB", MAX, MIN, 1, op(SUB, 2, 0, 1), end(2));
        dueValue("MUL", -2, MAX, 2, op(MUL, 2, 0, 1), end(2));
        dueValue("DIV", -3, -7, 2, op(DIV, 2, 0, 1), end(2));
        dueValue("DIV that wraps", MIN, MIN, -1, op(DIV, 2, 0, 1), end(2));
        dueValue("registers begin with 0", 0, 1, 2, op(ADD, 2, 3, 4), op(ADD, 2, 2, 5), op(ADD, 2, 2, 6),
                op(ADD, 2, 2, 7), end(2));
        dueValue("JUMP", 1, 1, 2, op(JUMP, 2), end(1), end(0));
        dueValue("ZERO that goes", 2, 0, 2, op(ZERO, 2, 0), end(0), end(1));
        dueValue("ZERO that doesn't", 1, 1, 2, op(ZERO, 2, 0), end(0), end(1));
        dueValue("STORE and LOAD", 44, 6, 44, plain(STORE, 0, 1), op(LOAD, 2, 0), end(2));
        dueValue("CALL", 3 * 5 + 1 + 3 * 16 + 2, 5, 0, op(CALL, 2, 0), op(CALL, 3, 2), op(ADD, 2, 2, 3), end(2));
    }

    private void runAllocatedKinds() {
        PassPipeline x = taken(crowded());
        x.poke(3, 4);
        check.due("run: original", 0, () -> x.run(false, 5, 3));
        int value = x.value();
        int cell = x.cell(3);
        int call = x.traced(0);
        x.allocate(4);
        check.due("run: allocated", 0, () -> x.run(true, 5, 3));
        check.due("run: allocated returns", value, x::value);
        check.due("run: allocated stores", cell, () -> x.cell(3));
        check.due("run: allocated calls", call, () -> x.traced(0));
        check.due("run: RELOADs and SPILLs are steps", 39, x.steps());
        check.due("run: value by hand", 3 + (-10 + (3 * 3 + 1 + 5)), value);
        PassPipeline y = taken(op(CONST, 2, 5), op(CONST, 3, 5), op(CONST, 4, 5), op(CONST, 5, 5), op(JUMP, 5),
                op(ADD, 6, 2, 3), op(ADD, 6, 6, 4), op(ADD, 6, 6, 5), op(ADD, 6, 6, 7), op(ADD, 6, 6, 0),
                op(ADD, 6, 6, 1), end(6));
        check.due("run: slots begin with 0, allocated", 6, () -> y.allocate(4));
        y.run(true, 1, 2);
        check.due("run: slots begin with 0", 23, y::value);
        y.run(true, 1, 2);
        check.due("run: slots begin with 0 each time", 23, y::value);
    }

    private void value() {
        PassPipeline x = new PassPipeline();
        check.due("value: no run", Check.ELEMENT, x::value);
        takeInto(x, op(DIV, 2, 0, 1), end(2));
        check.due("value: taken, no run", Check.ELEMENT, x::value);
        x.run(false, 6, 2);
        check.due("value: returned", 3, x::value);
        check.due("value: and again", 3, x::value);
        x.run(false, 6, 0);
        check.due("value: ended otherwise", Check.ELEMENT, x::value);
        x.run(true, 6, -6);
        check.due("value: of the latest run", -1, x::value);
        takeInto(x, op(JUMP, 0));
        check.due("value: a new program is no run", -1, x::value);
        x.run(true, 0, 0);
        check.due("value: spent", Check.ELEMENT, x::value);
    }

    private void traced() {
        PassPipeline x = new PassPipeline();
        check.due("traced: no run", Check.ELEMENT, () -> x.traced(0));
        takeInto(x, op(CALL, 0, 0), op(ZERO, 4, 1), op(SUB, 1, 1, 1), op(JUMP, 0), end(0));
        x.run(false, 2, 9);
        check.due("traced: first", 2, () -> x.traced(0));
        check.due("traced: second", 7, () -> x.traced(1));
        check.due("traced: none", Check.ELEMENT, () -> x.traced(2));
        check.due("traced: -1", Check.ELEMENT, () -> x.traced(-1));
        check.due("traced: the numbers are 3 * [a] and how many there are", 23, x::value);
        x.run(false, 5, 0);
        check.due("traced: of the latest run", 5, () -> x.traced(0));
        check.due("traced: each run begins anew", Check.ELEMENT, () -> x.traced(1));
        takeInto(x, op(CALL, 2, 0), op(JUMP, 0));
        check.due("traced: a new program is no run", 5, () -> x.traced(0));
        x.run(false, -8, 0);
        check.due("traced: the sixteenth", -8, () -> x.traced(15));
        check.due("traced: no more than sixteen", Check.ELEMENT, () -> x.traced(16));
    }

    private void steps() {
        PassPipeline x = new PassPipeline();
        check.due("steps: no run", 0, x.steps());
        takeInto(x, op(NOTHING), op(JUMP, 2), op(ZERO, 4, 0), op(DIV, 2, 0, 1), end(2));
        check.due("steps: taken, no run", 0, x.steps());
        x.run(false, 1, 0);
        check.due("steps: not the one that ended it", 3, x.steps());
        x.run(false, 1, 1);
        check.due("steps: RETURN, too", 5, x.steps());
        x.run(false, 0, 1);
        check.due("steps: of the latest run", 4, x.steps());
        x.pass(PACK);
        check.due("steps: a pass is no run", 4, x.steps());
        x.run(true, 0, 1);
        check.due("steps: of the present program", 2, x.steps());
    }

    private void theLongestProgram() {
        int[][] rows = new int[24][];
        int[][] folded = new int[24][];
        for (int i = 0; i < 23; i++) {
            int d = 2 + i % 3;
            rows[i] = op(ADD, d, d, 2 + (i + 1) % 3);
            folded[i] = op(CONST, d, 0);
        }
        rows[23] = end(2);
        folded[23] = end(2);
        PassPipeline x = taken(rows);
        duePass("longest: share", SHARE, 0, x, rows);
        duePass("longest: pack", PACK, 0, x, rows);
        check.due("longest: drop", 2, () -> x.pass(DROP));
        x.restore();
        duePass("longest: fold", FOLD, 23, x, folded);
        x.restore();
        check.due("longest: allocate", 3, () -> x.allocate(4));
        check.due("longest: 23 that became four, and two for the RETURN", 94, x.length(true));
        check.due("longest: its end", RETURN, () -> x.look(true, 93, 0));
        check.due("longest: run", 0, () -> x.run(true, 0, 0));
        check.due("longest: steps", 94, x.steps());
    }

    private void passesOnAnObjectUsedBefore() {
        PassPipeline x = taken(op(CONST, 2, 5), op(MOVE, 3, 2), op(ZERO, 4, 0), end(3), end(2));
        x.pass(FOLD);
        x.pass(SHARE);
        x.pass(DROP);
        takeInto(x, op(MOVE, 4, 2), op(JUMP, 3), op(CONST, 2, 1), end(4));
        duePass("used before: fold", FOLD, 2, x, op(CONST, 4, 0), op(JUMP, 3), op(NOTHING), end(4));
        takeInto(x, op(NOTHING), end(2));
        x.pass(DROP);
        takeInto(x, op(CONST, 2, 1), op(JUMP, 1));
        duePass("used before: drop", DROP, 1, x, op(NOTHING), op(JUMP, 1));
        takeInto(x, op(LOAD, 4, 0), op(CONST, 3, 5), end(3));
        duePass("used before: share", SHARE, 0, x, op(LOAD, 4, 0), op(CONST, 3, 5), end(3));
        takeInto(x, crowded());
        check.due("used before: allocate", 3, () -> x.allocate(4));
        takeInto(x, end(0));
        check.due("used before: allocate", 0, () -> x.allocate(4));
        dueHomes("used before: homes", x, 0, 1, 0, 0, 0, 0, 0, 0);
        takeInto(x, op(NOTHING), end(0));
        duePass("used before: pack", PACK, 1, x, end(0));
    }

    private void runsOnAnObjectUsedBefore() {
        PassPipeline x = taken(op(ADD, 2, 2, 0), op(ADD, 3, 3, 1), op(ADD, 4, 3, 2), op(ADD, 4, 4, 0),
                op(ADD, 4, 4, 1), op(ADD, 4, 4, 2), op(ADD, 4, 4, 3), end(4));
        x.run(false, 1, 10);
        check.due("used before: first run", 33, x::value);
        x.run(false, 1, 10);
        check.due("used before: registers begin with 0", 33, x::value);
        check.due("used before: slots", 3, () -> x.allocate(4));
        x.run(true, 1, 10);
        check.due("used before: first run with slots", 33, x::value);
        x.run(true, 1, 10);
        check.due("used before: slots begin with 0", 33, x::value);
    }
}
