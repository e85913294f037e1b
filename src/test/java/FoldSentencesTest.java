/** The sentences of FOLD, each by itself. */
final class FoldSentencesTest extends Tester {
    private FoldSentencesTest() {
        super("FoldSentencesTest");
    }

    public static void main(String[] args) {
        FoldSentencesTest test = new FoldSentencesTest();
        test.whatIsReached();
        test.whatIsInTheRegisters();
        test.whereWaysComeTogether();
        test.whatBecomesOfIt();
        test.check.end();
    }

    private void about(String sentence) {
        check.about("Terms", sentence);
    }

    private void whatIsReached() {
        instructionZero();
        whatMayFollow();
        everyKindIsFollowed();
        divisionByZeroIsNotFollowed();
        zeroOfANumber();
        notForAnotherReason();
    }

    private void whatIsInTheRegisters() {
        eachRegister();
        constGivesANumber();
        moveGivesWhatAHas();
        sumsOfTwoNumbers();
        noSumsOfAnything();
        allOthersGiveAnything();
        othersThatWriteNothing();
    }

    private void whereWaysComeTogether() {
        differentNumbers();
        anything();
        theSameNumber();
        backToInstructionZero();
        loops();
    }

    private void whatBecomesOfIt() {
        notReached();
        becomesConst();
        zeroBecomes();
        foldedTwice();
    }

    private void instructionZero() {
        about("For each instruction that is REACHED, each register before it has a NUMBER or ANYTHING. Instruction 0 is"
                + " reached,");
        dueNoChange("a RETURN alone", FOLD, end(0));
        dueNoChange("a JUMP alone", FOLD, op(JUMP, 0));
        duePass("a MOVE as instruction 0", FOLD, rows(op(MOVE, 3, 2), end(3)), 1, op(CONST, 3, 0), end(3));
    }

    private void eachRegister() {
        about("with anything in 0 and 1, and the number 0 in the others;");
        dueNoChange("register 0", FOLD, op(MOVE, 0, 0), end(0));
        dueNoChange("register 1", FOLD, op(MOVE, 1, 1), end(1));
        dueNoChange("ZERO of register 0", FOLD, op(ZERO, 2, 0), end(0), end(1));
        dueNoChange("ZERO of register 1", FOLD, op(ZERO, 2, 1), end(0), end(1));
        for (int r = 2; r < 8; r++) {
            duePass("register " + r, FOLD, rows(op(MOVE, r, r), end(r)), 1, op(CONST, r, 0), end(r));
            duePass("ZERO of register " + r, FOLD, rows(op(ZERO, 2, r), end(0), end(1)), 2,
                    op(JUMP, 2), op(NOTHING), end(1));
        }
    }

    private void whatMayFollow() {
        about("what may follow a reached instruction is reached, with what is in the registers then:");
        duePass("not what is behind a JUMP", FOLD, rows(op(JUMP, 2), op(CALL, 2, 0), end(0)), 1,
                op(JUMP, 2), op(NOTHING), end(0));
        duePass("not what is behind a RETURN", FOLD, rows(end(0), op(CALL, 2, 0), end(1)), 2,
                end(0), op(NOTHING), op(NOTHING));
        dueNoChange("both behind a ZERO of anything", FOLD, op(ZERO, 2, 0), end(0), end(1));
        duePass("nothing but a JUMP to itself", FOLD, rows(op(JUMP, 0), end(0)), 1, op(JUMP, 0), op(NOTHING));
        duePass("back over what is not reached", FOLD,
                rows(op(JUMP, 3), op(CALL, 2, 0), end(1), op(CALL, 3, 0), op(JUMP, 2)), 1,
                op(JUMP, 3), op(NOTHING), end(1), op(CALL, 3, 0), op(JUMP, 2));
        duePass("what is in the registers on that way", FOLD,
                rows(op(ZERO, 3, 0), op(CONST, 2, 5), end(2), op(MOVE, 3, 2), end(3)), 1,
                op(ZERO, 3, 0), op(CONST, 2, 5), end(2), op(CONST, 3, 0), end(3));
    }

    private void everyKindIsFollowed() {
        about("what may follow a reached instruction is reached,");
        int[][] all = {op(NOTHING), op(CONST, 2, 1), op(MOVE, 2, 0), op(ADD, 2, 0, 1), op(SUB, 2, 0, 1),
            op(MUL, 2, 0, 1), op(DIV, 2, 0, 1), op(LOAD, 2, 0), plain(STORE, 0, 1), op(CALL, 2, 0)};
        for (int[] row : all) {
            dueNoChange("behind kind " + row[0], FOLD, row, op(CALL, 3, 0), end(3));
        }
        dueNoChange("behind a LOAD of a cell that is not there", FOLD, op(CONST, 2, 8), op(LOAD, 3, 2), end(3));
        dueNoChange("behind a STORE to a cell that is not there", FOLD, op(CONST, 2, -1), plain(STORE, 2, 2), end(3));
    }

    private void constGivesANumber() {
        about("CONST gives a number;");
        for (int number : new int[] {MIN, -1, 0, 1, MAX}) {
            duePass("CONST " + number, FOLD, rows(op(CONST, 0, number), op(MOVE, 1, 0), end(1)), 1,
                    op(CONST, 0, number), op(CONST, 1, number), end(1));
        }
        duePass("the latest one", FOLD, rows(op(CONST, 2, 5), op(CONST, 2, 6), op(MOVE, 3, 2), end(3)), 1,
                op(CONST, 2, 5), op(CONST, 2, 6), op(CONST, 3, 6), end(3));
    }

    private void moveGivesWhatAHas() {
        about("MOVE what a has;");
        duePass("a number", FOLD, rows(op(CONST, 2, 5), op(MOVE, 0, 2), op(MOVE, 3, 0), end(3)), 2,
                op(CONST, 2, 5), op(CONST, 0, 5), op(CONST, 3, 5), end(3));
        dueNoChange("anything", FOLD, op(MOVE, 2, 0), op(MOVE, 3, 2), op(ZERO, 4, 3), end(3), end(2));
        duePass("a keeps it", FOLD, rows(op(CONST, 2, 5), op(MOVE, 3, 0), op(MOVE, 4, 2), end(4)), 1,
                op(CONST, 2, 5), op(MOVE, 3, 0), op(CONST, 4, 5), end(4));
    }

    private void sumsOfTwoNumbers() {
        about("ADD, SUB, MUL, DIV of two numbers a number");
        int[] due = {17 - 5, 17 + 5, 17 * -5, -3};
        for (int kind = ADD; kind <= DIV; kind++) {
            duePass("kind " + kind, FOLD,
                    rows(op(CONST, 2, 17), op(CONST, 3, -5), op(kind, 4, 2, 3), op(MOVE, 5, 4), end(5)), 2,
                    op(CONST, 2, 17), op(CONST, 3, -5), op(CONST, 4, due[kind - ADD]), op(CONST, 5, due[kind - ADD]),
                    end(5));
        }
        duePass("of one register twice, into itself", FOLD, rows(op(CONST, 2, 6), op(DIV, 2, 2, 2), end(2)), 1,
                op(CONST, 2, 6), op(CONST, 2, 1), end(2));
    }

    private void noSumsOfAnything() {
        about("ADD, SUB, MUL, DIV of two numbers a number");
        for (int kind = ADD; kind <= DIV; kind++) {
            dueNoChange("a has anything, kind " + kind, FOLD,
                    op(CONST, 3, 5), op(kind, 3, 0, 3), op(MOVE, 4, 3), end(4));
            dueNoChange("b has anything, kind " + kind, FOLD,
                    op(CONST, 3, 5), op(kind, 3, 3, 0), op(MOVE, 4, 3), end(4));
            dueNoChange("both have anything, kind " + kind, FOLD, op(kind, 3, 0, 0), op(MOVE, 4, 3), end(4));
            dueNoChange("0 and anything, kind " + kind, FOLD, op(kind, 3, 2, 0), op(MOVE, 4, 3), end(4));
        }
    }

    private void divisionByZeroIsNotFollowed() {
        about("(a DIV whose b has the number 0: nothing follows it);");
        duePass("a has anything", FOLD, rows(op(DIV, 2, 0, 3), op(CALL, 3, 0), end(3)), 2,
                op(DIV, 2, 0, 3), op(NOTHING), op(NOTHING));
        duePass("a has a number", FOLD, rows(op(CONST, 2, 5), op(DIV, 4, 2, 3), end(4)), 1,
                op(CONST, 2, 5), op(DIV, 4, 2, 3), op(NOTHING));
        duePass("0 by 0", FOLD, rows(op(DIV, 2, 2, 2), end(2)), 1, op(DIV, 2, 2, 2), op(NOTHING));
        duePass("what another way reaches stays", FOLD,
                rows(op(ZERO, 2, 0), op(DIV, 4, 1, 3), op(MOVE, 5, 4), end(5)), 1,
                op(ZERO, 2, 0), op(DIV, 4, 1, 3), op(CONST, 5, 0), end(5));
        dueNoChange("b has anything", FOLD, op(DIV, 2, 3, 0), op(CALL, 3, 2), end(3));
        dueNoChange("b has the number 0 on one way alone", FOLD,
                op(ZERO, 2, 0), op(CONST, 3, 1), op(DIV, 4, 1, 3), op(MOVE, 5, 4), end(5));
    }

    private void allOthersGiveAnything() {
        about("all others anything.");
        dueNoChange("LOAD", FOLD, op(LOAD, 3, 2), op(MOVE, 4, 3), end(4));
        dueNoChange("LOAD of what was stored", FOLD,
                op(CONST, 2, 5), plain(STORE, 4, 2), op(LOAD, 3, 4), op(MOVE, 5, 3), end(5));
        dueNoChange("CALL", FOLD, op(CALL, 3, 2), op(MOVE, 4, 3), end(4));
        dueNoChange("LOAD into the register that names the cell", FOLD, op(LOAD, 2, 2), op(MOVE, 4, 2), end(4));
    }

    private void othersThatWriteNothing() {
        about("with what is in the registers then:");
        for (int r = 0; r < 8; r++) {
            int other = (r + 1) % 8;
            duePass("what writes nothing leaves register " + r, FOLD,
                    rows(op(CONST, r, 5), op(LOAD, other, r), op(NOTHING), plain(STORE, other, r), op(ZERO, 5, other),
                            op(JUMP, 6), op(MOVE, other, r), end(other)), 1,
                    op(CONST, r, 5), op(LOAD, other, r), op(NOTHING), plain(STORE, other, r), op(ZERO, 5, other),
                    op(JUMP, 6), op(CONST, other, 5), end(other));
        }
        dueNoChange("ZERO leaves anything where it goes", FOLD, op(ZERO, 2, 0), end(1), op(MOVE, 2, 0), end(2));
    }

    private void zeroOfANumber() {
        about("Behind a ZERO whose a has a number only that follows which does.");
        duePass("0: where it goes", FOLD, rows(op(CONST, 0, 0), op(ZERO, 4, 0), op(CALL, 2, 1), end(0), end(1)), 3,
                op(CONST, 0, 0), op(JUMP, 4), op(NOTHING), op(NOTHING), end(1));
        for (int number : new int[] {MIN, -1, 1, MAX}) {
            duePass(number + ": what is behind it", FOLD,
                    rows(op(CONST, 0, number), op(ZERO, 3, 0), end(0), op(CALL, 2, 1), end(1)), 3,
                    op(CONST, 0, number), op(NOTHING), end(0), op(NOTHING), op(NOTHING));
        }
        duePass("what the way that is not gone would bring does not count", FOLD,
                rows(op(CONST, 2, 5), op(ZERO, 3, 3), op(CONST, 2, 6), op(MOVE, 4, 2), end(4)), 3,
                op(CONST, 2, 5), op(JUMP, 3), op(NOTHING), op(CONST, 4, 5), end(4));
    }

    private static int[][] diamond(int[] one, int[] other) {
        return rows(op(ZERO, 3, 0), one, op(JUMP, 4), other, op(MOVE, 3, 2), end(3));
    }

    private void differentNumbers() {
        about("Where ways come together with different numbers,");
        for (int r = 0; r < 8; r++) {
            int other = (r + 1) % 8;
            dueNoChange("in register " + r, FOLD, op(LOAD, other, 0), op(ZERO, 4, other), op(CONST, r, 5), op(JUMP, 5),
                    op(CONST, r, 6), op(MOVE, other, r), end(other));
        }
        dueNoChange("5 and 6", FOLD, diamond(op(CONST, 2, 5), op(CONST, 2, 6)));
        dueNoChange("MIN and MAX", FOLD, diamond(op(CONST, 2, MIN), op(CONST, 2, MAX)));
        dueNoChange("5 and the 0 of the beginning", FOLD, diamond(op(CONST, 2, 5), op(NOTHING)));
        dueNoChange("of three ways one", FOLD,
                op(ZERO, 4, 0), op(ZERO, 4, 1), op(CONST, 2, 5), op(JUMP, 4), op(MOVE, 3, 2), end(3));
        dueNoChange("what is lost there is lost behind it", FOLD,
                op(ZERO, 2, 0), op(CONST, 2, 5), op(CALL, 4, 0), op(ADD, 3, 2, 5), op(MOVE, 6, 3), end(6));
    }

    private void anything() {
        about("or anything, there is anything.");
        dueNoChange("anything and 5", FOLD, diamond(op(LOAD, 2, 0), op(CONST, 2, 5)));
        dueNoChange("5 and anything", FOLD, diamond(op(CONST, 2, 5), op(LOAD, 2, 0)));
        dueNoChange("anything twice", FOLD, diamond(op(LOAD, 2, 0), op(LOAD, 2, 0)));
        dueNoChange("anything and the 0 of the beginning", FOLD, diamond(op(CALL, 2, 0), op(NOTHING)));
    }

    private void theSameNumber() {
        about("Where ways come together with different numbers, or anything, there is anything.");
        duePass("the same number stays", FOLD, diamond(op(CONST, 2, MIN), op(CONST, 2, MIN)), 1,
                op(ZERO, 3, 0), op(CONST, 2, MIN), op(JUMP, 4), op(CONST, 2, MIN), op(CONST, 3, MIN), end(3));
        duePass("the 0 of the beginning on both", FOLD, diamond(op(CONST, 4, 1), op(CONST, 2, 0)), 1,
                op(ZERO, 3, 0), op(CONST, 4, 1), op(JUMP, 4), op(CONST, 2, 0), op(CONST, 3, 0), end(3));
        duePass("each register by itself", FOLD,
                rows(op(ZERO, 2, 0), op(CONST, 2, 5), op(MOVE, 3, 2), op(MOVE, 4, 5), end(3)), 1,
                op(ZERO, 2, 0), op(CONST, 2, 5), op(MOVE, 3, 2), op(CONST, 4, 0), end(3));
        duePass("both ways of one ZERO to one instruction", FOLD, rows(op(ZERO, 1, 0), op(MOVE, 3, 2), end(3)), 1,
                op(ZERO, 1, 0), op(CONST, 3, 0), end(3));
    }

    private void backToInstructionZero() {
        about("Where ways come together with different numbers, or anything, there is anything.");
        dueNoChange("back to instruction 0 with another number", FOLD,
                op(MOVE, 4, 2), op(CONST, 2, 1), op(ZERO, 4, 0), op(JUMP, 0), end(4));
        duePass("back to instruction 0 with the 0 of the beginning", FOLD,
                rows(op(MOVE, 4, 2), op(CONST, 2, 0), op(ZERO, 4, 0), op(JUMP, 0), end(4)), 1,
                op(CONST, 4, 0), op(CONST, 2, 0), op(ZERO, 4, 0), op(JUMP, 0), end(4));
        dueNoChange("an argument stays anything", FOLD, op(MOVE, 4, 0), op(CONST, 0, 5), op(ZERO, 4, 1), op(JUMP, 0),
                end(4));
    }

    private void loops() {
        about("Where ways come together with different numbers, or anything, there is anything.");
        dueNoChange("a counter", FOLD,
                op(CONST, 2, 9), op(CONST, 3, 1), op(SUB, 2, 2, 3), op(ZERO, 5, 2), op(JUMP, 2), end(2));
        dueNoChange("numbers that are lost one after the other, a round each", FOLD,
                op(ZERO, 7, 0), op(MOVE, 7, 6), op(MOVE, 6, 5), op(MOVE, 5, 4), op(MOVE, 4, 3), op(LOAD, 3, 0),
                op(JUMP, 0), end(7));
    }

    private void notForAnotherReason() {
        about("(What there is in the end, when no more comes: no instruction is reached, and no register has anything,"
                + " for another reason.)");
        duePass("a loop that keeps a number", FOLD,
                rows(op(CONST, 2, 5), op(ZERO, 4, 0), op(ADD, 2, 2, 3), op(JUMP, 1), op(MOVE, 4, 2), end(4)), 2,
                op(CONST, 2, 5), op(ZERO, 4, 0), op(CONST, 2, 5), op(JUMP, 1), op(CONST, 4, 5), end(4));
        duePass("a loop that nothing reaches", FOLD,
                rows(op(ZERO, 3, 2), op(CONST, 2, 1), op(JUMP, 0), op(MOVE, 4, 2), end(4)), 4,
                op(JUMP, 3), op(NOTHING), op(NOTHING), op(CONST, 4, 0), end(4));
        duePass("a ring that only reaches itself", FOLD,
                rows(op(JUMP, 4), op(CALL, 2, 0), op(ZERO, 4, 0), op(JUMP, 1), op(MOVE, 3, 2), end(3)), 4,
                op(JUMP, 4), op(NOTHING), op(NOTHING), op(NOTHING), op(CONST, 3, 0), end(3));
        dueNoChange("a way that opens when a number is lost", FOLD,
                op(ZERO, 4, 2), op(CALL, 3, 0), op(CALL, 5, 3), end(5), op(CONST, 2, 1), op(ZERO, 0, 0), op(JUMP, 0));
    }

    private void notReached() {
        about("Then each instruction that is not reached becomes NOTHING;");
        int[][] before = {end(0), op(NOTHING), op(CONST, 2, 1), op(MOVE, 2, 3), op(ADD, 2, 3, 4), op(SUB, 2, 3, 4),
            op(MUL, 2, 3, 4), op(DIV, 2, 3, 4), op(LOAD, 2, 3), plain(STORE, 2, 3), op(JUMP, 3), op(ZERO, 3, 2),
            op(CALL, 2, 3), end(7)};
        int[][] after = new int[before.length][];
        java.util.Arrays.fill(after, op(NOTHING));
        after[0] = end(0);
        duePass("each kind; a NOTHING becomes no other", FOLD, before, 12, after);
    }

    private void becomesConst() {
        about("each MOVE, ADD, SUB, MUL, DIV that gives a number becomes CONST;");
        int[][] givers = {op(MOVE, 7, 6), op(ADD, 7, 6, 5), op(SUB, 7, 6, 5), op(MUL, 7, 6, 5), op(DIV, 7, 6, 5)};
        int[] due = {-9, -11, -7, 18, 4};
        for (int i = 0; i < givers.length; i++) {
            duePass("kind " + givers[i][0], FOLD, rows(op(CONST, 6, -9), op(CONST, 5, -2), givers[i], end(7)), 1,
                    op(CONST, 6, -9), op(CONST, 5, -2), op(CONST, 7, due[i]), end(7));
        }
        dueNoChange("a CONST is one already", FOLD, op(CONST, 2, 5), op(CONST, 2, 5), end(2));
        dueNoChange("what gives anything stays", FOLD, op(MOVE, 2, 0), op(ADD, 3, 0, 1), op(DIV, 4, 1, 0), end(3));
    }

    private void zeroBecomes() {
        about("each ZERO whose a has a number becomes JUMP or NOTHING.");
        duePass("to itself", FOLD, rows(op(ZERO, 0, 7), end(0)), 2, op(JUMP, 0), op(NOTHING));
        duePass("0: to what is behind it", FOLD, rows(op(ZERO, 1, 7), end(0)), 1, op(JUMP, 1), end(0));
        duePass("5: to what is behind it", FOLD, rows(op(CONST, 7, 5), op(ZERO, 2, 7), end(0)), 1,
                op(CONST, 7, 5), op(NOTHING), end(0));
        dueNoChange("anything", FOLD, op(ZERO, 1, 1), end(0));
    }

    private void foldedTwice() {
        check.about("Promise 4", "how many instructions of the present program have become others");
        PassPipeline x = taken(op(CONST, 2, 5), op(ZERO, 3, 3), op(CALL, 2, 0), op(ADD, 4, 2, 2), end(4));
        int[][] folded = {op(CONST, 2, 5), op(JUMP, 3), op(NOTHING), op(CONST, 4, 10), end(4)};
        duePass("the first time", FOLD, 3, x, folded);
        duePass("the second time", FOLD, 0, x, folded);
    }
}
