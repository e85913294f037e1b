/** The sentences of PACK, each by itself. */
final class PackSentencesTest extends Tester {
    private PackSentencesTest() {
        super("PackSentencesTest");
    }

    public static void main(String[] args) {
        PackSentencesTest test = new PackSentencesTest();
        test.pastNothing();
        test.goesWhereAJumpGoes();
        test.onlyPastJumps();
        test.twentyFourTimes();
        test.rings();
        test.nothingsAreTakenOut();
        test.jumpsAreTakenOut();
        test.byWhatIsBehindBeforeAnyIsTakenOut();
        test.newNumbers();
        test.behindAFold();
        test.check.end();
    }

    private void about(String sentence) {
        check.about("Terms", sentence);
    }

    private void pastNothing() {
        about("Let t past NOTHING be the first instruction from t on that is not NOTHING.");
        duePass("t itself", PACK, rows(op(ZERO, 2, 0), end(0), op(JUMP, 4), end(1), end(2)), 0,
                op(ZERO, 4, 0), end(0), op(JUMP, 4), end(1), end(2));
        duePass("past one", PACK, rows(op(ZERO, 2, 0), end(0), op(NOTHING), op(JUMP, 5), end(1), end(2)), 1,
                op(ZERO, 4, 0), end(0), op(JUMP, 4), end(1), end(2));
        int[][] many = new int[24][];
        java.util.Arrays.fill(many, op(NOTHING));
        many[0] = op(ZERO, 2, 0);
        many[1] = end(0);
        many[22] = op(JUMP, 1);
        many[23] = end(1);
        duePass("past twenty", PACK, many, 20, op(ZERO, 1, 0), end(0), op(JUMP, 1), end(1));
    }

    private void goesWhereAJumpGoes() {
        about("when what is at d past NOTHING is a JUMP, its d becomes that one's.");
        duePass("a JUMP", PACK, rows(op(JUMP, 2), end(0), op(JUMP, 4), end(1), end(2)), 0,
                op(JUMP, 4), end(0), op(JUMP, 4), end(1), end(2));
        duePass("a ZERO keeps its a", PACK, rows(op(ZERO, 2, 7), end(0), op(JUMP, 4), end(1), end(2)), 0,
                op(ZERO, 4, 7), end(0), op(JUMP, 4), end(1), end(2));
        duePass("back", PACK, rows(op(ZERO, 4, 0), end(0), op(MOVE, 2, 0), end(2), op(JUMP, 2)), 0,
                op(ZERO, 2, 0), end(0), op(MOVE, 2, 0), end(2), op(JUMP, 2));
    }

    private void onlyPastJumps() {
        about("when what is at d past NOTHING is a JUMP,");
        dueNoChange("a ZERO is none", PACK, op(ZERO, 2, 0), end(0), op(ZERO, 1, 1), end(1));
        dueNoChange("a RETURN is none", PACK, op(ZERO, 2, 0), end(0), end(1));
        duePass("up to a ZERO", PACK, rows(op(JUMP, 2), end(0), op(JUMP, 4), end(1), op(ZERO, 1, 0), end(2)), 0,
                op(JUMP, 4), end(0), op(JUMP, 4), end(1), op(ZERO, 1, 0), end(2));
    }

    /** The first goes to the last, each other one to the one before it, and the second is a RETURN. */
    private static int[][] chain(int size, int[] first) {
        int[][] rows = new int[size][];
        rows[0] = first;
        rows[1] = end(0);
        for (int i = 2; i < size; i++) {
            rows[i] = op(JUMP, i - 1);
        }
        return rows;
    }

    private void twentyFourTimes() {
        about("First, for each JUMP and ZERO, in order, 24 times:");
        int[][] after = chain(24, op(ZERO, 1, 3));
        for (int i = 2; i < 24; i++) {
            after[i] = op(JUMP, 1);
        }
        duePass("the longest chain", PACK, chain(24, op(ZERO, 23, 3)), 0, after);
        // From 3 to 1 and from 1 to 3, 24 times: the ZERO ends where it began, which 23 or 25 times would not do.
        duePass("an even number of times", PACK, rows(op(ZERO, 3, 0), op(JUMP, 3), end(0), op(JUMP, 1)), 0,
                op(ZERO, 3, 0), op(JUMP, 1), end(0), op(JUMP, 1));
        // A ring of five: 24 steps from 2 on are four more than whole rounds.
        duePass("24 steps round a ring of five", PACK,
                rows(op(ZERO, 2, 0), end(0), op(JUMP, 4), end(1), op(JUMP, 6), end(2), op(JUMP, 8), end(3),
                        op(JUMP, 10), end(4), op(JUMP, 2)), 0,
                op(ZERO, 10, 0), end(0), op(JUMP, 2), end(1), op(JUMP, 2), end(2), op(JUMP, 2), end(3), op(JUMP, 2),
                end(4), op(JUMP, 2));
    }

    private void rings() {
        about("for each JUMP and ZERO, in order,");
        dueNoChange("a JUMP to itself", PACK, op(JUMP, 0));
        duePass("a JUMP to itself past NOTHING", PACK, rows(op(ZERO, 2, 0), end(0), op(NOTHING), op(JUMP, 2)), 1,
                op(ZERO, 2, 0), end(0), op(JUMP, 2));
        duePass("the first one 24 times before the next", PACK, rows(op(JUMP, 1), op(JUMP, 2), op(JUMP, 0)), 0,
                op(JUMP, 0), op(JUMP, 0), op(JUMP, 0));
        duePass("two JUMPs", PACK, rows(op(JUMP, 2), end(0), op(JUMP, 0)), 0, op(JUMP, 0), end(0), op(JUMP, 0));
    }

    private void nothingsAreTakenOut() {
        about("Then NOTHINGs are taken out,");
        duePass("first, within, and before the last", PACK,
                rows(op(NOTHING), op(MOVE, 2, 0), op(NOTHING), op(NOTHING), op(CALL, 2, 2), op(NOTHING), end(2)), 4,
                op(MOVE, 2, 0), op(CALL, 2, 2), end(2));
        dueNoChange("there is none", PACK, op(MOVE, 2, 0), op(CALL, 2, 2), end(2));
        int[][] most = new int[24][];
        java.util.Arrays.fill(most, op(NOTHING));
        most[23] = end(1);
        duePass("23 of 24", PACK, most, 23, end(1));
    }

    private void jumpsAreTakenOut() {
        about("and each JUMP whose d past NOTHING is what is behind it past NOTHING;");
        duePass("to what is behind it", PACK, rows(op(JUMP, 1), end(0)), 1, end(0));
        duePass("to a NOTHING before that", PACK, rows(op(JUMP, 1), op(NOTHING), end(0)), 2, end(0));
        duePass("over NOTHINGs", PACK, rows(op(JUMP, 3), op(NOTHING), op(NOTHING), end(0)), 3, end(0));
        duePass("by way of another JUMP", PACK, rows(op(JUMP, 2), end(0), op(JUMP, 1)), 1, end(0), op(JUMP, 0));
        dueNoChange("not over an instruction", PACK, op(JUMP, 2), op(MOVE, 2, 0), end(0));
        dueNoChange("not a ZERO", PACK, op(ZERO, 1, 0), end(0));
        dueNoChange("not one to what is before it", PACK, op(CALL, 2, 0), op(JUMP, 0), end(0));
        dueNoChange("not one to itself", PACK, op(ZERO, 2, 0), op(JUMP, 1), end(0));
        dueNoChange("not the last one", PACK, op(CALL, 2, 0), op(JUMP, 0));
    }

    private void byWhatIsBehindBeforeAnyIsTakenOut() {
        about("is what is behind it past NOTHING;");
        PassPipeline x = taken(op(CALL, 2, 1), op(JUMP, 3), op(NOTHING), op(JUMP, 4), end(2));
        duePass("what is behind is still a JUMP", PACK, 2, x, op(CALL, 2, 1), op(JUMP, 2), end(2));
        duePass("next time it is not", PACK, 1, x, op(CALL, 2, 1), end(2));
        duePass("and then there is none", PACK, 0, x, op(CALL, 2, 1), end(2));
    }

    private void newNumbers() {
        about("d of JUMP and ZERO becomes the number of the first instruction left at or behind it.");
        duePass("at it", PACK, rows(op(NOTHING), op(ZERO, 4, 0), op(NOTHING), end(0), end(1)), 2,
                op(ZERO, 2, 0), end(0), end(1));
        duePass("behind it", PACK, rows(op(ZERO, 2, 0), end(0), op(NOTHING), op(NOTHING), end(1)), 2,
                op(ZERO, 2, 0), end(0), end(1));
        duePass("back to instruction 0, which is left", PACK, rows(op(CALL, 2, 0), op(NOTHING), op(JUMP, 0)), 1,
                op(CALL, 2, 0), op(JUMP, 0));
        duePass("back to instruction 0, which is not", PACK, rows(op(NOTHING), op(CALL, 2, 0), op(JUMP, 0)), 1,
                op(CALL, 2, 0), op(JUMP, 0));
        duePass("behind JUMPs that were taken out", PACK,
                rows(op(JUMP, 1), op(CALL, 2, 0), op(JUMP, 3), op(ZERO, 5, 0), op(JUMP, 1), end(1)), 2,
                op(CALL, 2, 0), op(ZERO, 3, 0), op(JUMP, 0), end(1));
        duePass("no other number changes", PACK,
                rows(op(NOTHING), op(CONST, 3, 4), op(ADD, 4, 5, 6), plain(STORE, 2, 3), op(CALL, 7, 6), end(4)), 1,
                op(CONST, 3, 4), op(ADD, 4, 5, 6), plain(STORE, 2, 3), op(CALL, 7, 6), end(4));
    }

    private void behindAFold() {
        about("Then NOTHINGs are taken out,");
        PassPipeline x = taken(op(ZERO, 3, 0), op(DIV, 2, 1, 2), op(CALL, 2, 0), op(ZERO, 5, 7), end(0),
                op(DIV, 3, 1, 7), end(3));
        duePass("folded", FOLD, 4, x,
                op(ZERO, 3, 0), op(DIV, 2, 1, 2), op(NOTHING), op(JUMP, 5), op(NOTHING), op(DIV, 3, 1, 7), op(NOTHING));
        duePass("NOTHINGs at the end, behind a division by 0", PACK, 4, x,
                op(ZERO, 2, 0), op(DIV, 2, 1, 2), op(DIV, 3, 1, 7));
        for (int argument = 0; argument < 2; argument++) {
            int given = argument;
            check.due("run", 1, () -> x.run(true, given, 5));
            check.due("run", 1, () -> x.run(false, given, 5));
        }
    }
}
