/** The sentences of SHARE, each by itself. */
final class ShareSentencesTest extends Tester {
    private ShareSentencesTest() {
        super("ShareSentencesTest");
    }

    public static void main(String[] args) {
        ShareSentencesTest test = new ShareSentencesTest();
        test.blocks();
        test.instructions();
        test.values();
        test.check.end();
    }

    private void about(String sentence) {
        check.about("Terms", sentence);
    }

    private void blocks() {
        beginsAtInstructionZero();
        beginsWhereAJumpOrZeroGoes();
        beginsBehindJumpZeroAndReturn();
        beginsNowhereElse();
        allDifferentAtTheBeginning();
    }

    private void beginsAtInstructionZero() {
        about("SHARE. A BLOCK begins at instruction 0,");
        PassPipeline x = taken(op(CONST, 2, 9), end(2));
        duePass("a first program", SHARE, 0, x, op(CONST, 2, 9), end(2));
        takeInto(x, op(CONST, 3, 9), op(MOVE, 2, 3), end(3));
        duePass("nothing of it is left in the next", SHARE, 1, x, op(CONST, 3, 9), op(MOVE, 2, 3), end(2));
    }

    private void beginsWhereAJumpOrZeroGoes() {
        about("at each instruction to which a JUMP or ZERO goes,");
        dueNoChange("a JUMP back", SHARE, op(CONST, 2, 9), op(CONST, 3, 9), op(ZERO, 4, 0), op(JUMP, 1), end(3));
        dueNoChange("a JUMP on", SHARE,
                op(ZERO, 2, 0), op(JUMP, 3), op(CONST, 2, 9), op(CONST, 3, 9), op(NOTHING), end(1));
        dueNoChange("a JUMP that nothing reaches", SHARE, op(CONST, 2, 9), op(CONST, 3, 9), end(1), op(JUMP, 1));
        dueNoChange("a ZERO back", SHARE, op(CONST, 2, 9), op(CONST, 3, 9), op(ZERO, 1, 0), end(3));
        dueNoChange("a ZERO on", SHARE, op(ZERO, 2, 0), op(CONST, 2, 9), op(CONST, 3, 9), end(1));
        duePass("not before it, nor one behind it", SHARE,
                rows(op(CONST, 2, 9), op(CONST, 3, 9), op(CONST, 4, 9), op(CONST, 5, 9), op(ZERO, 2, 0), end(1)), 2,
                op(CONST, 2, 9), op(MOVE, 3, 2), op(CONST, 4, 9), op(MOVE, 5, 4), op(ZERO, 2, 0), end(1));
    }

    private void beginsBehindJumpZeroAndReturn() {
        about("and behind each JUMP, ZERO and RETURN.");
        dueNoChange("JUMP", SHARE, op(CONST, 2, 9), op(JUMP, 3), op(CONST, 3, 9), end(1));
        dueNoChange("ZERO", SHARE, op(CONST, 2, 9), op(ZERO, 3, 0), op(CONST, 3, 9), end(1));
        dueNoChange("RETURN", SHARE, op(CONST, 2, 9), end(2), op(CONST, 3, 9), end(1));
        duePass("the ZERO and the RETURN are of the block before", SHARE,
                rows(op(MOVE, 3, 0), op(ZERO, 0, 3), op(MOVE, 3, 0), end(3)), 2,
                op(MOVE, 3, 0), op(ZERO, 0, 0), op(MOVE, 3, 0), end(0));
    }

    private void beginsNowhereElse() {
        about("A BLOCK begins at instruction 0, at each instruction to which a JUMP or ZERO goes, and behind each JUMP,"
                + " ZERO and RETURN.");
        int[][] others = {op(NOTHING), op(CONST, 4, 1), op(MOVE, 4, 1), op(ADD, 4, 0, 1), op(SUB, 4, 0, 1),
            op(MUL, 4, 0, 1), op(DIV, 4, 0, 1), op(LOAD, 4, 0), plain(STORE, 0, 1), op(CALL, 4, 0)};
        for (int[] other : others) {
            duePass("not behind kind " + other[0], SHARE, rows(op(CONST, 2, 9), other, op(CONST, 3, 9), end(1)), 1,
                    op(CONST, 2, 9), other, op(MOVE, 3, 2), end(1));
        }
    }

    private void allDifferentAtTheBeginning() {
        about("At the beginning of a block all registers have different VALUES.");
        dueNoChange("registers that are 0", SHARE, op(MOVE, 3, 2), op(ADD, 5, 2, 0), op(ADD, 6, 4, 0), end(1));
        dueNoChange("a later block", SHARE, op(MOVE, 3, 2), op(JUMP, 2), op(ADD, 4, 2, 0), op(ADD, 5, 3, 0), end(1));
        for (int r = 0; r < 8; r++) {
            int other = r == 7 ? 6 : 7;
            dueNoChange("register " + r, SHARE, end(r));
            dueNoChange("register " + r + " was written before", SHARE,
                    op(LOAD, r, 1), op(JUMP, 2), op(CALL, other, r), plain(STORE, r, other), end(1));
        }
        dueNoChange("values of an earlier block are no values of this one", SHARE,
                op(CONST, 2, 9), op(JUMP, 2), op(LOAD, 3, 0), op(CONST, 4, 9), end(4));
    }

    private void instructions() {
        readsAreReplaced();
        readsAreReplacedByTheLowestNow();
        onlyReadsAreReplaced();
        becomesMove();
        becomesMoveOfTheLowest();
        staysWhenNoneHasTheValue();
        becomesNothing();
    }

    private void readsAreReplaced() {
        about("In a block, in order, for each instruction: each register that it reads is replaced by the lowest one"
                + " that has the same value now;");
        int[][] given = {op(ADD, 4, 5, 6), op(SUB, 4, 5, 6), op(MUL, 4, 5, 6), op(DIV, 4, 5, 6), op(LOAD, 4, 5),
            plain(STORE, 5, 6), op(ZERO, 3, 5), op(CALL, 4, 5), end(5), op(MOVE, 4, 5)};
        int[][] due = {op(ADD, 4, 0, 1), op(SUB, 4, 0, 1), op(MUL, 4, 0, 1), op(DIV, 4, 0, 1), op(LOAD, 4, 0),
            plain(STORE, 0, 1), op(ZERO, 3, 0), op(CALL, 4, 0), end(0), op(MOVE, 4, 0)};
        for (int i = 0; i < given.length; i++) {
            duePass("kind " + given[i][0], SHARE, rows(op(MOVE, 5, 0), op(MOVE, 6, 1), given[i], end(1)), 1,
                    op(MOVE, 5, 0), op(MOVE, 6, 1), due[i], end(1));
        }
        duePass("a alone", SHARE, rows(op(MOVE, 5, 0), op(SUB, 4, 5, 7), end(1)), 1,
                op(MOVE, 5, 0), op(SUB, 4, 0, 7), end(1));
        duePass("b alone", SHARE, rows(op(MOVE, 5, 0), op(SUB, 4, 7, 5), end(1)), 1,
                op(MOVE, 5, 0), op(SUB, 4, 7, 0), end(1));
    }

    private void readsAreReplacedByTheLowestNow() {
        about("the lowest one that has the same value now;");
        duePass("the lowest of three", SHARE, rows(op(MOVE, 3, 7), op(MOVE, 5, 7), end(7)), 2,
                op(MOVE, 3, 7), op(MOVE, 5, 3), end(3));
        dueNoChange("not one that had it", SHARE, op(MOVE, 2, 0), op(LOAD, 0, 1), op(ADD, 3, 2, 2), end(2));
        duePass("the lowest that is left", SHARE, rows(op(MOVE, 3, 0), op(MOVE, 2, 0), op(LOAD, 0, 1), end(3)), 1,
                op(MOVE, 3, 0), op(MOVE, 2, 0), op(LOAD, 0, 1), end(2));
        duePass("one that it overwrites itself", SHARE, rows(op(MOVE, 3, 0), op(LOAD, 0, 3), end(3)), 1,
                op(MOVE, 3, 0), op(LOAD, 0, 0), end(3));
    }

    private void onlyReadsAreReplaced() {
        about("each register that it reads is replaced");
        dueNoChange("not the number of a CONST", SHARE, op(MOVE, 5, 0), op(CONST, 6, 5), end(1));
        dueNoChange("not d", SHARE, op(MOVE, 5, 0), op(LOAD, 5, 1), op(MOVE, 5, 0), op(CALL, 5, 1), end(1));
        dueNoChange("not where a JUMP goes", SHARE, op(MOVE, 3, 0), op(JUMP, 3), op(NOTHING), end(1));
        dueNoChange("not where a ZERO goes", SHARE, op(MOVE, 3, 0), op(ZERO, 3, 1), op(NOTHING), end(1));
    }

    private void becomesMove() {
        about("then, if it is CONST, ADD, SUB or MUL, and some registers have the value that it gives, it becomes"
                + " MOVE d r, with the lowest of these;");
        int[][] first = {op(CONST, 2, MIN), op(ADD, 2, 0, 1), op(SUB, 2, 0, 1), op(MUL, 2, 0, 1)};
        int[][] second = {op(CONST, 7, MIN), op(ADD, 7, 0, 1), op(SUB, 7, 0, 1), op(MUL, 7, 0, 1)};
        for (int i = 0; i < first.length; i++) {
            duePass("kind " + first[i][0], SHARE, rows(first[i], second[i], end(1)), 1,
                    first[i], op(MOVE, 7, 2), end(1));
        }
        dueNoChange("not a DIV, LOAD or CALL", SHARE, op(DIV, 2, 0, 1), op(DIV, 3, 0, 1), op(LOAD, 4, 0),
                op(LOAD, 5, 0), op(CALL, 6, 0), op(CALL, 7, 0), end(1));
        duePass("after its reads were replaced", SHARE,
                rows(op(ADD, 2, 0, 1), op(MOVE, 5, 0), op(MOVE, 6, 1), op(ADD, 3, 5, 6), end(1)), 1,
                op(ADD, 2, 0, 1), op(MOVE, 5, 0), op(MOVE, 6, 1), op(MOVE, 3, 2), end(1));
    }

    private void becomesMoveOfTheLowest() {
        about("it becomes MOVE d r, with the lowest of these;");
        duePass("a lower one came later", SHARE, rows(op(CONST, 6, 9), op(MOVE, 4, 6), op(CONST, 7, 9), end(1)), 1,
                op(CONST, 6, 9), op(MOVE, 4, 6), op(MOVE, 7, 4), end(1));
        duePass("a higher one than d", SHARE, rows(op(CONST, 6, 9), op(CONST, 2, 9), end(1)), 1,
                op(CONST, 6, 9), op(MOVE, 2, 6), end(1));
        duePass("one that it reads", SHARE,
                rows(op(ADD, 2, 0, 1), op(MOVE, 0, 2), op(LOAD, 2, 1), op(MOVE, 3, 0), op(SUB, 4, 1, 3), end(3)), 2,
                op(ADD, 2, 0, 1), op(MOVE, 0, 2), op(LOAD, 2, 1), op(MOVE, 3, 0), op(SUB, 4, 1, 0), end(0));
    }

    private void staysWhenNoneHasTheValue() {
        about("and some registers have the value that it gives,");
        dueNoChange("overwritten", SHARE, op(CONST, 2, 9), op(CONST, 2, 8), op(CONST, 3, 9), end(1));
        dueNoChange("overwritten by what it gave itself", SHARE, op(ADD, 0, 0, 1), op(ADD, 0, 0, 1), end(0));
        duePass("overwritten and made anew, it is the same value", SHARE,
                rows(op(ADD, 2, 0, 1), op(MUL, 3, 2, 2), op(LOAD, 2, 0), op(ADD, 4, 0, 1), op(MUL, 5, 4, 4), end(1)),
                1,
                op(ADD, 2, 0, 1), op(MUL, 3, 2, 2), op(LOAD, 2, 0), op(ADD, 4, 0, 1), op(MOVE, 5, 3), end(1));
    }

    private void becomesNothing() {
        about("then, if it is MOVE d a, and d has the value of a already, it becomes NOTHING.");
        duePass("to itself", SHARE, rows(op(MOVE, 7, 7), end(1)), 1, op(NOTHING), end(1));
        duePass("twice", SHARE, rows(op(MOVE, 3, 2), op(MOVE, 3, 2), end(1)), 1,
                op(MOVE, 3, 2), op(NOTHING), end(1));
        duePass("and back", SHARE, rows(op(MOVE, 3, 2), op(MOVE, 2, 3), end(1)), 1,
                op(MOVE, 3, 2), op(NOTHING), end(1));
        duePass("a CONST that became a MOVE", SHARE, rows(op(CONST, 2, 9), op(CONST, 2, 9), end(1)), 1,
                op(CONST, 2, 9), op(NOTHING), end(1));
        duePass("a sum that became a MOVE of a lower one", SHARE,
                rows(op(ADD, 2, 0, 1), op(MOVE, 3, 2), op(ADD, 3, 0, 1), end(1)), 1,
                op(ADD, 2, 0, 1), op(MOVE, 3, 2), op(NOTHING), end(1));
        dueNoChange("not a LOAD of the same cell", SHARE, op(LOAD, 2, 0), op(LOAD, 2, 0), end(1));
        dueNoChange("not when d was overwritten", SHARE, op(MOVE, 3, 2), op(LOAD, 3, 0), op(MOVE, 3, 2), end(1));
    }

    private void values() {
        valueOfConst();
        valueOfMove();
        valueOfSums();
        valueOfTurnedSums();
        newValues();
        noOtherReasons();
    }

    private void valueOfConst() {
        about("What it gives: CONST the value of that number;");
        duePass("MIN twice, MAX once", SHARE, rows(op(CONST, 2, MIN), op(CONST, 3, MAX), op(CONST, 4, MIN), end(1)), 1,
                op(CONST, 2, MIN), op(CONST, 3, MAX), op(MOVE, 4, 2), end(1));
        dueNoChange("numbers that name registers", SHARE, op(CONST, 2, 0), op(CONST, 3, 1), op(CONST, 4, 8), end(1));
        duePass("made anew, it is the same value", SHARE,
                rows(op(CONST, 2, 9), op(ADD, 3, 2, 0), op(CONST, 2, 8), op(CONST, 4, 9), op(ADD, 5, 4, 0), end(1)), 1,
                op(CONST, 2, 9), op(ADD, 3, 2, 0), op(CONST, 2, 8), op(CONST, 4, 9), op(MOVE, 5, 3), end(1));
    }

    private void valueOfMove() {
        about("MOVE that of a;");
        duePass("a chain", SHARE, rows(op(MOVE, 5, 7), op(MOVE, 3, 5), op(SUB, 4, 7, 5), end(5)), 2,
                op(MOVE, 5, 7), op(MOVE, 3, 5), op(SUB, 4, 3, 3), end(3));
        duePass("the value that a had then", SHARE, rows(op(MOVE, 2, 0), op(LOAD, 0, 1), op(MOVE, 3, 2), end(3)), 1,
                op(MOVE, 2, 0), op(LOAD, 0, 1), op(MOVE, 3, 2), end(2));
    }

    private void valueOfSums() {
        about("ADD, SUB, MUL the value of that kind of those of a and b");
        dueNoChange("each kind is another", SHARE,
                op(ADD, 2, 0, 1), op(SUB, 3, 0, 1), op(MUL, 4, 0, 1), end(1));
        dueNoChange("another a", SHARE, op(SUB, 3, 0, 1), op(SUB, 4, 2, 1), end(1));
        dueNoChange("another b", SHARE, op(MUL, 3, 0, 1), op(MUL, 4, 0, 2), end(1));
        dueNoChange("the same register with another value", SHARE,
                op(ADD, 2, 0, 1), op(LOAD, 0, 1), op(ADD, 3, 0, 1), end(1));
        duePass("sums of the same sums", SHARE,
                rows(op(SUB, 2, 0, 1), op(MUL, 3, 2, 0), op(SUB, 4, 0, 1), op(MUL, 5, 4, 0), end(1)), 2,
                op(SUB, 2, 0, 1), op(MUL, 3, 2, 0), op(MOVE, 4, 2), op(MOVE, 5, 3), end(1));
    }

    private void valueOfTurnedSums() {
        about("(of ADD and MUL, of b and a, too);");
        duePass("ADD", SHARE, rows(op(ADD, 2, 0, 1), op(ADD, 3, 1, 0), end(1)), 1,
                op(ADD, 2, 0, 1), op(MOVE, 3, 2), end(1));
        duePass("MUL", SHARE, rows(op(MUL, 2, 1, 0), op(MUL, 3, 0, 1), end(1)), 1,
                op(MUL, 2, 1, 0), op(MOVE, 3, 2), end(1));
        dueNoChange("not SUB", SHARE, op(SUB, 2, 0, 1), op(SUB, 3, 1, 0), end(1));
        dueNoChange("what stays is not turned", SHARE, op(ADD, 2, 1, 0), op(MUL, 3, 7, 6), end(1));
    }

    private void newValues() {
        about("all others a new one.");
        dueNoChange("DIV", SHARE, op(DIV, 2, 0, 1), op(DIV, 3, 0, 1), op(ADD, 4, 2, 0), op(ADD, 5, 3, 0), end(3));
        dueNoChange("LOAD", SHARE, op(LOAD, 2, 0), op(LOAD, 3, 0), op(ADD, 4, 2, 0), op(ADD, 5, 3, 0), end(3));
        dueNoChange("CALL", SHARE, op(CALL, 2, 0), op(CALL, 3, 0), op(ADD, 4, 2, 0), op(ADD, 5, 3, 0), end(3));
        dueNoChange("LOAD of what was stored", SHARE, plain(STORE, 0, 1), op(LOAD, 2, 0), end(2));
        duePass("a copy of a new one", SHARE, rows(op(LOAD, 5, 0), op(MOVE, 3, 5), end(5)), 1,
                op(LOAD, 5, 0), op(MOVE, 3, 5), end(3));
    }

    private void noOtherReasons() {
        about("Values are the same only for these reasons.");
        dueNoChange("1 + 2 is not 3", SHARE,
                op(CONST, 2, 1), op(CONST, 3, 2), op(ADD, 4, 2, 3), op(CONST, 5, 3), end(1));
        dueNoChange("[0] - [0] is not 0", SHARE, op(SUB, 2, 0, 0), op(CONST, 3, 0), end(1));
        dueNoChange("[0] + 0 is not [0]", SHARE, op(CONST, 2, 0), op(ADD, 3, 0, 2), op(MUL, 4, 3, 0), end(3));
        dueNoChange("[0] + [0] is not 2 * [0]", SHARE, op(CONST, 2, 2), op(ADD, 3, 0, 0), op(MUL, 4, 0, 2), end(1));
        dueNoChange("([0] + [1]) + [7] is not [0] + ([1] + [7])", SHARE,
                op(ADD, 2, 0, 1), op(ADD, 2, 2, 7), op(ADD, 3, 1, 7), op(ADD, 3, 0, 3), end(1));
        dueNoChange("the 0 of the beginning is not CONST 0", SHARE, op(CONST, 2, 0), op(MOVE, 4, 3), end(2));
        dueNoChange("not what a ZERO tells", SHARE, op(CONST, 2, 0), op(ZERO, 2, 0), op(ADD, 3, 0, 2), end(3));
    }
}
