/** The document's first sentence: original and present do the same as long as neither is spent. */
final class SameDoingsTest {
    private static final int RUNS = 20000;
    private static final int SPENT = 3;

    private final Check check;
    private final Programs programs;
    private final PassPipeline program = new PassPipeline();
    private final StringBuilder told;

    private SameDoingsTest(Check check, int number) {
        this.check = check;
        this.programs = new Programs(number + 1000003);
        this.told = new StringBuilder("program " + number + ": ");
    }

    public static void main(String[] args) {
        Check check = new Check("SameDoingsTest");
        for (int number = 0; number < RUNS; number++) {
            new SameDoingsTest(check, number).goThrough();
        }
        check.end();
    }

    private void goThrough() {
        for (int[] row : programs.whole()) {
            program.instruction(row[0], row[1], row[2], row[3]);
            told.append(java.util.Arrays.toString(row));
        }
        program.take();
        int passes = programs.pick(9);
        for (int i = 0; i < passes; i++) {
            int pass = programs.pick(4);
            program.pass(pass);
            told.append(" pass ").append(pass);
        }
        if (programs.pick(2) == 0) {
            int k = 2 + programs.pick(7);
            // Too few machine registers leave the program as it is, which is due to do the same, too.
            told.append(" allocate ").append(k).append(' ').append(Check.answer(() -> program.allocate(k)));
        }
        program.poke(programs.pick(8), programs.pick(9) - 1);
        // Some 27 calls for each run, so that the object stays below its 512.
        for (int i = 0; i < 8; i++) {
            compare(programs.pick(6) - 2, programs.pick(6) - 2);
        }
    }

    private void compare(int x, int y) {
        int ending = program.run(false, x, y);
        String doings = doings();
        int presentEnding = program.run(true, x, y);
        if (ending != SPENT && presentEnding != SPENT) {
            check.due(() -> told + " ending with " + x + ", " + y, ending, presentEnding);
            check.due(() -> told + " doings with " + x + ", " + y, 1, doings.equals(doings()) ? 1 : 0);
        }
    }

    private String doings() {
        StringBuilder all = new StringBuilder().append(Check.answer(program::value));
        for (int cell = 0; cell < 8; cell++) {
            all.append(' ').append(program.cell(cell));
        }
        for (int i = 0; i < 17; i++) {
            int k = i;
            all.append(' ').append(Check.answer(() -> program.traced(k)));
        }
        return all.toString();
    }
}
