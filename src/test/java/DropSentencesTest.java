/** The sentences of DROP, each by itself. */
final class DropSentencesTest extends Tester {
    private DropSentencesTest() {
        super("DropSentencesTest");
    }

    public static void main(String[] args) {
        DropSentencesTest test = new DropSentencesTest();
        test.liveBeforeARead();
        test.liveBeforeWhatDoesNotWrite();
        test.notLiveBeforeAWrite();
        test.liveBeforeWhatMayFollow();
        test.whatMayFollowByItsKindAlone();
        test.loops();
        test.becomesNothing();
        test.staysWhateverIsLive();
        test.untilThereIsNone();
        test.check.end();
    }

    private void about(String sentence) {
        check.about("Terms", sentence);
    }

    private void liveBeforeARead() {
        about("A register is LIVE before an instruction that reads it,");
        int[][] readers = {op(DIV, 3, 2, 0), op(DIV, 3, 0, 2), op(LOAD, 3, 2), plain(STORE, 2, 0), plain(STORE, 0, 2),
            op(ZERO, 2, 2), op(CALL, 3, 2), end(2)};
        for (int[] reader : readers) {
            dueNoChange("kind " + reader[0], DROP, op(CONST, 2, 5), reader, end(1));
        }
        int[][] givers = {op(MOVE, 3, 2), op(ADD, 3, 2, 0), op(ADD, 3, 0, 2), op(SUB, 3, 2, 0), op(SUB, 3, 0, 2),
            op(MUL, 3, 2, 0), op(MUL, 3, 0, 2)};
        for (int[] giver : givers) {
            dueNoChange("kind " + giver[0] + " whose d is read", DROP, op(CONST, 2, 5), giver, end(3));
        }
        dueNoChange("one that writes it, too", DROP, op(CONST, 2, 5), op(ADD, 2, 2, 2), op(CALL, 2, 2), end(1));
        duePass("the number of a CONST is no read, nor is where a JUMP goes", DROP,
                rows(op(CONST, 2, 5), op(CONST, 3, 2), op(JUMP, 3), end(3)), 1,
                op(NOTHING), op(CONST, 3, 2), op(JUMP, 3), end(3));
    }

    private void liveBeforeWhatDoesNotWrite() {
        about("and before one that does not write it when it is live before something that may follow that.");
        int[][] others = {op(NOTHING), op(CONST, 3, 2), op(MOVE, 3, 0), op(ADD, 3, 0, 1), op(SUB, 3, 0, 1),
            op(MUL, 3, 0, 1), op(DIV, 3, 0, 1), op(LOAD, 3, 0), plain(STORE, 0, 1), op(JUMP, 2), op(ZERO, 2, 0),
            op(CALL, 3, 0)};
        for (int[] other : others) {
            dueNoChange("kind " + other[0], DROP, op(CONST, 2, 5), other, op(CALL, 4, 3), end(2));
        }
    }

    private void notLiveBeforeAWrite() {
        about("and before one that does not write it");
        int[][] writers = {op(CONST, 2, 6), op(MOVE, 2, 0), op(ADD, 2, 0, 1), op(SUB, 2, 0, 1), op(MUL, 2, 0, 1),
            op(DIV, 2, 0, 1), op(LOAD, 2, 0), op(CALL, 2, 0)};
        for (int[] writer : writers) {
            duePass("kind " + writer[0] + " writes it", DROP, rows(op(CONST, 2, 5), writer, end(2)), 1,
                    op(NOTHING), writer, end(2));
        }
        dueNoChange("a STORE writes no register", DROP, op(CONST, 2, 5), plain(STORE, 0, 1), end(2));
    }

    private void liveBeforeWhatMayFollow() {
        about("when it is live before something that may follow that.");
        dueNoChange("where a ZERO goes", DROP, op(CONST, 2, 5), op(ZERO, 3, 0), end(1), end(2));
        dueNoChange("behind a ZERO", DROP, op(CONST, 2, 5), op(ZERO, 3, 0), end(2), end(1));
        dueNoChange("where a JUMP goes", DROP, op(CONST, 2, 5), op(JUMP, 3), end(1), end(2));
        duePass("not behind a JUMP", DROP, rows(op(CONST, 2, 5), op(JUMP, 3), end(2), end(1)), 1,
                op(NOTHING), op(JUMP, 3), end(2), end(1));
        duePass("not behind a RETURN", DROP, rows(op(CONST, 2, 5), end(1), end(2)), 1, op(NOTHING), end(1), end(2));
        duePass("written on both ways", DROP,
                rows(op(CONST, 2, 5), op(ZERO, 4, 0), op(LOAD, 2, 0), end(2), op(CALL, 2, 0), end(2)), 1,
                op(NOTHING), op(ZERO, 4, 0), op(LOAD, 2, 0), end(2), op(CALL, 2, 0), end(2));
        dueNoChange("written on one way alone", DROP,
                op(CONST, 2, 5), op(ZERO, 3, 0), op(LOAD, 2, 0), end(2));
    }

    private void whatMayFollowByItsKindAlone() {
        about("something that may follow that.");
        dueNoChange("whatever number a ZERO would see", DROP, op(CONST, 2, 5), op(ZERO, 3, 7), end(2), end(1));
        dueNoChange("whatever number a DIV would see", DROP, op(CONST, 2, 5), op(DIV, 3, 0, 7), end(2));
        dueNoChange("whatever cell a LOAD would see", DROP, op(CONST, 2, 8), op(LOAD, 3, 2), end(2));
        duePass("in what is not reached, too", DROP, rows(end(0), op(CONST, 2, 5), op(CONST, 3, 6), end(3)), 1,
                end(0), op(NOTHING), op(CONST, 3, 6), end(3));
    }

    private void loops() {
        about("when it is live before something that may follow that.");
        dueNoChange("read in the next round", DROP,
                op(CONST, 3, 1), op(CALL, 4, 2), op(ADD, 2, 2, 3), op(ZERO, 5, 0), op(JUMP, 1), end(0));
        dueNoChange("read by itself in the next round", DROP, op(ADD, 2, 2, 1), op(JUMP, 0));
        dueNoChange("two that read each other", DROP, op(MOVE, 2, 3), op(MOVE, 3, 2), op(JUMP, 0));
        duePass("read by nobody in any round", DROP, rows(op(ADD, 2, 0, 1), op(JUMP, 0)), 1, op(NOTHING), op(JUMP, 0));
        dueNoChange("read far before, by many ways back", DROP,
                op(ZERO, 9, 0), op(CALL, 3, 2), op(JUMP, 0), op(JUMP, 1), op(JUMP, 3), op(JUMP, 4), op(JUMP, 5),
                op(JUMP, 6), op(JUMP, 7), op(CONST, 2, 5), op(JUMP, 8));
    }

    private void becomesNothing() {
        about("Each CONST, MOVE, ADD, SUB, MUL whose d is not live before what follows becomes NOTHING;");
        int[][] unused = {op(CONST, 2, MIN), op(MOVE, 2, 1), op(ADD, 2, 0, 1), op(SUB, 2, 0, 1), op(MUL, 2, 0, 1)};
        for (int[] row : unused) {
            duePass("kind " + row[0], DROP, rows(row, end(1)), 1, op(NOTHING), end(1));
            row[1] = 1;
            dueNoChange("kind " + row[0] + " whose d is live", DROP, row, end(1));
        }
        for (int r = 0; r < 8; r++) {
            duePass("into register " + r, DROP, rows(op(CONST, r, 5), end((r + 1) % 8)), 1,
                    op(NOTHING), end((r + 1) % 8));
        }
        dueNoChange("a MOVE to itself whose d is live", DROP, op(MOVE, 2, 2), end(2));
        duePass("d is live before it, but not behind", DROP, rows(op(ADD, 2, 2, 2), end(1)), 1, op(NOTHING), end(1));
    }

    private void staysWhateverIsLive() {
        about("Each CONST, MOVE, ADD, SUB, MUL");
        dueNoChange("no other", DROP, op(NOTHING), op(DIV, 2, 0, 1), op(LOAD, 2, 0), plain(STORE, 0, 1), op(ZERO, 5, 0),
                op(CALL, 2, 0), op(JUMP, 7), end(2), end(1));
    }

    private void untilThereIsNone() {
        about("all at once, and again until there is none.");
        int[][] before = new int[24][];
        int[][] after = new int[24][];
        for (int i = 0; i < 23; i++) {
            before[i] = op(MOVE, 2 + (i + 1) % 2, 2 + i % 2);
            after[i] = op(NOTHING);
        }
        before[23] = end(0);
        after[23] = end(0);
        duePass("23, each read by the next alone", DROP, before, 23, after);
        PassPipeline x = taken(before);
        x.pass(DROP);
        duePass("none is left for the next time", DROP, 0, x, after);
        duePass("those that a dropped one read, and no others", DROP,
                rows(op(CONST, 2, 1), op(CONST, 3, 2), op(ADD, 4, 2, 3), op(MUL, 5, 4, 3), end(3)), 3,
                op(NOTHING), op(CONST, 3, 2), op(NOTHING), op(NOTHING), end(3));
    }
}
