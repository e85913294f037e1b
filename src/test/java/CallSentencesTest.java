/** The sentences of the promises 1 to 15, each by itself, and those on the object as a whole. */
final class CallSentencesTest extends Tester {
    /** Behind the ends of every range of the document. */
    private static final int[] FAR = {MIN, MIN + 1, -256, -1, 256, MAX - 1, MAX};

    /** For each kind which of d, a and b name registers. */
    private static final String[] REGISTERS = {
        "", "d", "da", "dab", "dab", "dab", "dab", "da", "ab", "", "a", "da", "a"};

    private CallSentencesTest() {
        super("CallSentencesTest");
    }

    public static void main(String[] args) {
        CallSentencesTest test = new CallSentencesTest();
        test.newObject();
        test.instruction();
        test.take();
        test.pass();
        test.allocate();
        test.home();
        test.restore();
        test.lengthAndLook();
        test.pokeAndCell();
        test.run();
        test.valueTracedAndSteps();
        test.wholeObject();
        test.check.end();
    }

    private void about(int promise, String sentence) {
        check.about("Promise " + promise, sentence);
    }

    private void newObject() {
        about(1, "No program,");
        PassPipeline x = new PassPipeline();
        check.due("length(false)", 0, x.length(false));
        check.due("length(true)", 0, x.length(true));
        check.due("run(false, 0, 0)", Check.STATE, () -> x.run(false, 0, 0));
        check.due("run(true, 0, 0)", Check.STATE, () -> x.run(true, 0, 0));
        check.due("look(false, 0, 0)", Check.ELEMENT, () -> x.look(false, 0, 0));
        about(1, "an empty draft,");
        check.due("take()", Check.ARGUMENT, x::take);
        check.due("instruction", 0, () -> x.instruction(RETURN, 0, 0, 0));
        check.due("take()", 1, x::take);
        about(1, "memory 0,");
        PassPipeline y = new PassPipeline();
        dueCells("no run", y, 0, 0, 0, 0, 0, 0, 0, 0);
        takeInto(y, end(0));
        y.run(false, 5, 6);
        dueCells("a run", y, 0, 0, 0, 0, 0, 0, 0, 0);
        about(1, "no run.");
        PassPipeline z = new PassPipeline();
        check.due("value()", Check.ELEMENT, z::value);
        check.due("traced(0)", Check.ELEMENT, () -> z.traced(0));
        check.due("steps()", 0, z.steps());
        objectsAreApart();
    }

    private void objectsAreApart() {
        about(1, "No program, an empty draft, memory 0, no run.");
        PassPipeline used = taken(op(CALL, 2, 0), plain(STORE, 1, 2), end(2));
        used.poke(3, 33);
        used.run(true, 5, 6);
        write(used, op(NOTHING));
        PassPipeline x = new PassPipeline();
        check.due("another object: length(true)", 0, x.length(true));
        check.due("another object: instruction", 0, () -> x.instruction(RETURN, 0, 0, 0));
        check.due("another object: cell(3)", 0, () -> x.cell(3));
        check.due("another object: steps()", 0, x.steps());
        check.due("another object: value()", Check.ELEMENT, x::value);
        check.due("the one: value()", 16, used::value);
        check.due("the one: instruction", 1, () -> used.instruction(RETURN, 0, 0, 0));
    }

    private void dueCells(String test, PassPipeline x, int... cells) {
        for (int c = 0; c < 8; c++) {
            int cell = c;
            check.due(test + " cell(" + c + ")", cells[c], () -> x.cell(cell));
        }
    }

    private void instruction() {
        instructionAnswersItsNumber();
        instructionRefusesKinds();
        instructionRefusesRegisters();
        instructionRefusesPlaces();
        instructionRefusesWhenThereAre24();
    }

    private void instructionAnswersItsNumber() {
        about(2, "One more instruction in the draft: its number.");
        PassPipeline x = new PassPipeline();
        for (int i = 0; i < 24; i++) {
            int number = i;
            check.due("instruction", i, () -> x.instruction(CONST, number % 8, number, 0));
        }
        PassPipeline y = taken(end(0), end(1));
        check.due("the first of a new draft", 0, () -> y.instruction(CONST, 2, 5, 0));
        check.due("the second", 1, () -> y.instruction(RETURN, 0, 2, 0));
        check.due("the program is still the other one", 2, y.length(true));
        check.due("take()", 2, y::take);
        dueProgram("taken", y, true, op(CONST, 2, 5), end(2));
    }

    private void instructionRefusesKinds() {
        about(2, "IllegalArgumentException: kind is not 0 .. 12,");
        PassPipeline x = new PassPipeline();
        for (int kind : FAR) {
            check.due("kind " + kind, Check.ARGUMENT, () -> x.instruction(kind, 0, 0, 0));
        }
        check.due("kind 13", Check.ARGUMENT, () -> x.instruction(13, 0, 0, 0));
        check.due("kind 14", Check.ARGUMENT, () -> x.instruction(14, 0, 0, 0));
        for (int kind = 0; kind <= 12; kind++) {
            int given = kind;
            check.due("kind " + kind + ", behind what was refused", kind, () -> x.instruction(given, 0, 0, 0));
        }
    }

    private void instructionRefusesRegisters() {
        about(2, "or one of its registers not 0 .. 7,");
        for (int kind = 0; kind <= 12; kind++) {
            for (int place = 0; place < 3; place++) {
                boolean isRegister = REGISTERS[kind].indexOf("dab".charAt(place)) >= 0;
                for (int edge : FAR) {
                    if (isRegister) {
                        dueRegister(kind, place, edge, Check.ARGUMENT);
                    }
                }
                dueRegister(kind, place, 8, isRegister ? Check.ARGUMENT : 0);
                dueRegister(kind, place, 0, 0);
                dueRegister(kind, place, 7, 0);
            }
        }
        PassPipeline x = new PassPipeline();
        check.due("a of a CONST is no register", 0, () -> x.instruction(CONST, 0, MIN, 0));
        check.due("a of a CONST is no register", 1, () -> x.instruction(CONST, 0, MAX, 0));
    }

    private void dueRegister(int kind, int place, int number, long due) {
        int[] row = op(kind, 3, 3, 3);
        row[place + 1] = number;
        PassPipeline x = new PassPipeline();
        check.due("instruction(" + kind + ", " + row[1] + ", " + row[2] + ", " + row[3] + ")", due,
                () -> x.instruction(kind, row[1], row[2], row[3]));
    }

    private void instructionRefusesPlaces() {
        about(2, "or d of a JUMP or ZERO not 0 .. 23;");
        for (int kind = JUMP; kind <= ZERO; kind++) {
            for (int edge : FAR) {
                dueRegister(kind, 0, edge, Check.ARGUMENT);
            }
            dueRegister(kind, 0, 24, Check.ARGUMENT);
            dueRegister(kind, 0, 23, 0);
            dueRegister(kind, 0, 0, 0);
        }
    }

    private void instructionRefusesWhenThereAre24() {
        about(2, "IllegalStateException: there are 24.");
        PassPipeline x = new PassPipeline();
        for (int i = 0; i < 23; i++) {
            x.instruction(NOTHING, 0, 0, 0);
        }
        check.due("the 24th", 23, () -> x.instruction(JUMP, 23, 0, 0));
        for (int kind = 0; kind <= 12; kind++) {
            int given = kind;
            check.due("the 25th, kind " + kind, Check.STATE, () -> x.instruction(given, 0, 0, 0));
        }
        check.due("take()", 24, x::take);
        check.due("the last is as it was", JUMP, () -> x.look(false, 23, 0));
        check.due("the draft has room again", 0, () -> x.instruction(NOTHING, 0, 0, 0));
        check.due("which is no program", Check.ARGUMENT, x::take);
        check.due("the draft has room after that, too", 0, () -> x.instruction(NOTHING, 0, 0, 0));
    }

    private void take() {
        takeMakesBothPrograms();
        takeEmptiesTheDraft();
        takeAnswersHowMany();
        takeRefusesAnEmptyDraft();
        takeRefusesGoingBehindTheEnd();
        takeRefusesOtherEnds();
    }

    private void takeMakesBothPrograms() {
        about(3, "The draft becomes the original and the present program,");
        PassPipeline x = taken(op(MOVE, 2, 1), op(NOTHING), end(2));
        x.pass(PACK);
        x.allocate(8);
        write(x, op(CONST, 3, 5), op(ZERO, 0, 3), end(3));
        check.due("written, not taken", 2, x.length(true));
        x.take();
        dueProgram("the original", x, false, op(CONST, 3, 5), op(ZERO, 0, 3), end(3));
        dueProgram("the present one", x, true, op(CONST, 3, 5), op(ZERO, 0, 3), end(3));
        check.due("it is not allocated", Check.ELEMENT, () -> x.home(0));
        check.due("a pass", 1, () -> x.pass(FOLD));
        check.due("run", 0, () -> x.run(false, 0, 0));
        check.due("value", 5, x::value);
    }

    private void takeEmptiesTheDraft() {
        about(3, "and is empty afterwards, also when this throws:");
        PassPipeline x = taken(end(0));
        check.due("taken: take() again", Check.ARGUMENT, x::take);
        check.due("taken: instruction", 0, () -> x.instruction(CONST, 2, 5, 0));
        check.due("refused: take()", Check.ARGUMENT, x::take);
        check.due("refused: instruction", 0, () -> x.instruction(RETURN, 0, 1, 0));
        check.due("then: take()", 1, x::take);
        dueProgram("then", x, false, end(1));
        write(x, op(JUMP, 5), end(0));
        check.due("refused for where it goes: take()", Check.ARGUMENT, x::take);
        check.due("refused for where it goes: take() again", Check.ARGUMENT, x::take);
        check.due("refused for where it goes: instruction", 0, () -> x.instruction(RETURN, 0, 0, 0));
    }

    private void takeAnswersHowMany() {
        about(3, "how many instructions there are.");
        for (int size = 1; size <= 24; size++) {
            PassPipeline x = new PassPipeline();
            for (int i = 1; i < size; i++) {
                x.instruction(NOTHING, 0, 0, 0);
            }
            x.instruction(RETURN, 0, 0, 0);
            check.due("take()", size, x::take);
            check.due("length(false)", size, x.length(false));
        }
    }

    private void takeRefusesAnEmptyDraft() {
        about(3, "IllegalArgumentException: it is empty,");
        PassPipeline x = new PassPipeline();
        check.due("take()", Check.ARGUMENT, x::take);
        check.due("length(true)", 0, x.length(true));
        takeInto(x, op(MOVE, 2, 1), end(2));
        check.due("take() with a program", Check.ARGUMENT, x::take);
        dueProgram("which stays", x, true, op(MOVE, 2, 1), end(2));
    }

    private void dueTake(String test, long due, int[]... rows) {
        PassPipeline x = taken(op(MOVE, 2, 1), end(2));
        write(x, rows);
        check.due(test + " take()", due, x::take);
        if (due == Check.ARGUMENT) {
            dueProgram(test + ", the original stays", x, false, op(MOVE, 2, 1), end(2));
            dueProgram(test + ", the present one stays", x, true, op(MOVE, 2, 1), end(2));
        }
    }

    private void takeRefusesGoingBehindTheEnd() {
        about(3, "a JUMP or ZERO goes behind its end,");
        dueTake("JUMP 0 of 1", 1, op(JUMP, 0));
        dueTake("JUMP 1 of 1", Check.ARGUMENT, op(JUMP, 1));
        dueTake("JUMP 2 of 3", 3, op(JUMP, 2), op(NOTHING), end(0));
        dueTake("JUMP 3 of 3", Check.ARGUMENT, op(JUMP, 3), op(NOTHING), end(0));
        dueTake("JUMP 23 of 3", Check.ARGUMENT, op(NOTHING), end(0), op(JUMP, 23));
        dueTake("ZERO 2 of 3", 3, op(NOTHING), op(ZERO, 2, 0), end(0));
        dueTake("ZERO 3 of 3", Check.ARGUMENT, op(NOTHING), op(ZERO, 3, 0), end(0));
        dueTake("ZERO 23 of 3", Check.ARGUMENT, op(ZERO, 23, 0), op(NOTHING), end(0));
        dueTake("one that nothing reaches", Check.ARGUMENT, end(0), op(JUMP, 3), end(0));
        dueTake("d of another kind", 3, op(CONST, 7, 9), op(ADD, 7, 7, 7), end(7));
        int[][] longest = new int[24][];
        java.util.Arrays.fill(longest, op(ZERO, 23, 0));
        longest[23] = op(JUMP, 23);
        dueTake("23 of 24", 24, longest);
    }

    private void takeRefusesOtherEnds() {
        about(3, "or its last instruction is neither JUMP nor RETURN.");
        for (int kind = 0; kind <= 12; kind++) {
            boolean ends = kind == JUMP || kind == RETURN;
            dueTake("kind " + kind, ends ? 2 : Check.ARGUMENT, end(0), op(kind, 0, 0, 0));
            dueTake("kind " + kind + " alone", ends ? 1 : Check.ARGUMENT, op(kind, 0, 0, 0));
        }
    }

    private void pass() {
        about(4, "A pass 0 FOLD, 1 SHARE, 2 DROP, 3 PACK:");
        int[][] before = {op(MOVE, 2, 3), op(MOVE, 4, 0), op(NOTHING), end(4)};
        duePass("FOLD", 0, before, 1, op(CONST, 2, 0), op(MOVE, 4, 0), op(NOTHING), end(4));
        duePass("SHARE", 1, before, 1, op(MOVE, 2, 3), op(MOVE, 4, 0), op(NOTHING), end(0));
        duePass("DROP", 2, before, 1, op(NOTHING), op(MOVE, 4, 0), op(NOTHING), end(4));
        duePass("PACK", 3, before, 1, op(MOVE, 2, 3), op(MOVE, 4, 0), end(4));
        passCounts();
        passRefuses();
    }

    private void passCounts() {
        about(4, "how many instructions of the present program have become others (for PACK: were taken out).");
        duePass("FOLD, where a NOTHING is not reached", FOLD, rows(end(0), op(NOTHING), op(MOVE, 2, 0), end(2)), 2,
                end(0), op(NOTHING), op(NOTHING), op(NOTHING));
        duePass("SHARE, where only what is read changes", SHARE, rows(op(MOVE, 2, 1), plain(STORE, 2, 2), end(2)), 2,
                op(MOVE, 2, 1), plain(STORE, 1, 1), end(1));
        duePass("DROP, in all its rounds", DROP, rows(op(CONST, 2, 1), op(MOVE, 3, 2), op(MOVE, 4, 3), end(0)), 3,
                op(NOTHING), op(NOTHING), op(NOTHING), end(0));
        duePass("PACK, where others go elsewhere now", PACK,
                rows(op(ZERO, 3, 0), op(NOTHING), op(CALL, 2, 0), op(JUMP, 5), end(1), end(2)), 1,
                op(ZERO, 4, 0), op(CALL, 2, 0), op(JUMP, 4), end(1), end(2));
        PassPipeline x = taken(op(MOVE, 2, 3), op(NOTHING), end(2));
        int[] counts = {1, 0, 0, 1};
        for (int pass = 0; pass < 4; pass++) {
            int number = pass;
            check.due("pass(" + pass + ")", counts[pass], () -> x.pass(number));
            check.due("pass(" + pass + ") again", 0, () -> x.pass(number));
        }
    }

    private void passRefuses() {
        about(4, "IllegalArgumentException: there is no such pass;");
        PassPipeline x = taken(op(MOVE, 2, 3), op(NOTHING), end(2));
        for (int pass : FAR) {
            check.due("pass(" + pass + ")", Check.ARGUMENT, () -> x.pass(pass));
        }
        check.due("pass(4)", Check.ARGUMENT, () -> x.pass(4));
        dueProgram("the program stays", x, true, op(MOVE, 2, 3), op(NOTHING), end(2));
        about(4, "IllegalStateException: there is no program,");
        PassPipeline y = new PassPipeline();
        write(y, end(0));
        for (int pass = 0; pass < 4; pass++) {
            int number = pass;
            check.due("pass(" + pass + ")", Check.STATE, () -> y.pass(number));
        }
        about(4, "or it was allocated.");
        x.allocate(8);
        for (int pass = 0; pass < 4; pass++) {
            int number = pass;
            check.due("pass(" + pass + ")", Check.STATE, () -> x.pass(number));
        }
        dueProgram("the program stays", x, true, op(MOVE, 0, 2), op(NOTHING), end(0));
        x.restore();
        check.due("restored", 1, () -> x.pass(FOLD));
        x.allocate(8);
        takeInto(x, op(NOTHING), end(0));
        check.due("taken anew", 1, () -> x.pass(PACK));
    }

    /** Six registers that are live together, so that k 8 is enough, and 7 is not. */
    private static int[][] crowd() {
        int[][] rows = new int[9][];
        rows[0] = op(NOTHING);
        for (int r = 1; r < 8; r++) {
            rows[r] = op(ADD, 0, 0, r);
        }
        rows[8] = end(0);
        return rows;
    }

    private void allocate() {
        about(5, "Allocates the present program:");
        PassPipeline x = taken(op(JUMP, 2), op(CONST, 2, 5), op(ADD, 3, 0, 1), end(3));
        x.pass(FOLD);
        x.pass(PACK);
        check.due("not the original", 0, () -> x.allocate(2));
        dueProgram("allocated", x, true, op(ADD, 0, 0, 1), end(0));
        dueProgram("the original", x, false, op(JUMP, 2), op(CONST, 2, 5), op(ADD, 3, 0, 1), end(3));
        about(5, "how many registers are in slots.");
        int[] inSlots = {6, 5, 4, 3, 0};
        for (int k = 4; k <= 8; k++) {
            PassPipeline y = taken(crowd());
            int number = k;
            check.due("allocate(" + k + ")", inSlots[k - 4], () -> y.allocate(number));
        }
        allocateRefusesNumbers();
        allocateRefusesStates();
        allocateRefusesTooFew();
    }

    private void allocateRefusesNumbers() {
        about(5, "IllegalArgumentException: k is not 2 .. 8;");
        PassPipeline x = taken(op(NOTHING), end(1));
        for (int k : FAR) {
            check.due("allocate(" + k + ")", Check.ARGUMENT, () -> x.allocate(k));
        }
        for (int k : new int[] {0, 1, 9, 10}) {
            check.due("allocate(" + k + ")", Check.ARGUMENT, () -> x.allocate(k));
        }
        check.due("nothing is allocated", Check.ELEMENT, () -> x.home(0));
        for (int k = 2; k <= 8; k++) {
            int number = k;
            check.due("allocate(" + k + ")", 0, () -> x.allocate(number));
            x.restore();
        }
    }

    private void allocateRefusesStates() {
        about(5, "IllegalStateException: there is no program,");
        PassPipeline x = new PassPipeline();
        write(x, end(2));
        for (int k = 2; k <= 8; k++) {
            int number = k;
            check.due("allocate(" + k + ")", Check.STATE, () -> x.allocate(number));
        }
        about(5, "it was allocated,");
        x.take();
        check.due("allocate(3)", 0, () -> x.allocate(3));
        for (int k = 2; k <= 8; k++) {
            int number = k;
            check.due("allocate(" + k + ")", Check.STATE, () -> x.allocate(number));
        }
        check.due("home(2) is as before", 2, () -> x.home(2));
        dueProgram("the program is as before", x, true, end(2));
        x.restore();
        check.due("restored", 0, () -> x.allocate(8));
        takeInto(x, end(3));
        check.due("taken anew", 0, () -> x.allocate(8));
    }

    private void allocateRefusesTooFew() {
        about(5, "or k is below 4 and some register finds no machine register (nothing is done then).");
        PassPipeline x = taken(crowd());
        check.due("allocate(2)", Check.STATE, () -> x.allocate(2));
        check.due("allocate(3)", Check.STATE, () -> x.allocate(3));
        dueProgram("nothing is done", x, true, crowd());
        check.due("it is not allocated", Check.ELEMENT, () -> x.home(7));
        check.due("passes go on", 1, () -> x.pass(PACK));
        check.due("allocate(4)", 6, () -> x.allocate(4));
        PassPipeline y = taken(end(2));
        check.due("one register too many: allocate(2)", Check.STATE, () -> y.allocate(2));
        check.due("one register more: allocate(3)", 0, () -> y.allocate(3));
    }

    private void home() {
        about(6, "Where a register is in the latest allocation: its machine register, or 8 + its slot.");
        PassPipeline x = taken(crowd());
        x.allocate(4);
        dueHomes("k 4", x, 0, 1, 8, 9, 10, 11, 12, 13);
        x.restore();
        x.allocate(7);
        dueHomes("k 7", x, 0, 1, 2, 3, 4, 8, 9, 10);
        x.restore();
        x.allocate(8);
        dueHomes("k 8", x, 0, 1, 2, 3, 4, 5, 6, 7);
        about(6, "IllegalArgumentException: there is no such register;");
        for (int register : FAR) {
            check.due("home(" + register + ")", Check.ARGUMENT, () -> x.home(register));
        }
        check.due("home(8)", Check.ARGUMENT, () -> x.home(8));
        homeOfWhatIsNotAllocated();
    }

    private void homeOfWhatIsNotAllocated() {
        about(6, "NoSuchElementException: the present program was not allocated.");
        PassPipeline x = new PassPipeline();
        dueNoHomes("no program", x);
        takeInto(x, crowd());
        dueNoHomes("taken", x);
        x.pass(PACK);
        dueNoHomes("changed by a pass", x);
        x.allocate(4);
        check.due("allocated", 13, () -> x.home(7));
        x.restore();
        dueNoHomes("restored", x);
        x.allocate(5);
        check.due("allocated anew", 12, () -> x.home(7));
        check.due("a take that throws", Check.ARGUMENT, x::take);
        check.due("leaves the allocation", 12, () -> x.home(7));
        x.run(true, 0, 0);
        x.poke(0, 1);
        check.due("a run and a poke leave it, too", 12, () -> x.home(7));
        takeInto(x, end(0));
        dueNoHomes("taken anew", x);
    }

    private void dueNoHomes(String test, PassPipeline x) {
        for (int r = 0; r < 8; r++) {
            int register = r;
            check.due(test + " home(" + r + ")", Check.ELEMENT, () -> x.home(register));
        }
    }

    private void restore() {
        about(7, "The present program is the original again.");
        int[][] rows = {op(MOVE, 2, 3), op(NOTHING), op(MOVE, 4, 0), end(4)};
        PassPipeline x = taken(rows);
        x.restore();
        dueProgram("nothing was changed", x, true, rows);
        for (int pass = 0; pass < 4; pass++) {
            x.pass(pass);
            x.restore();
            dueProgram("after pass " + pass, x, true, rows);
        }
        x.allocate(5);
        x.restore();
        dueProgram("allocated", x, true, rows);
        dueProgram("the original is what it was", x, false, rows);
        PassPipeline y = taken(end(0));
        takeInto(y, end(1));
        write(y, end(2));
        y.restore();
        dueProgram("the latest original, not the draft", y, true, end(1));
        about(7, "IllegalStateException: there is no program.");
        PassPipeline z = new PassPipeline();
        check.dueThrow("new", Check.STATE, z::restore);
        write(z, op(NOTHING));
        check.dueThrow("a draft", Check.STATE, z::restore);
        check.due("a take that throws", Check.ARGUMENT, z::take);
        check.dueThrow("behind it", Check.STATE, z::restore);
        takeInto(z, end(0));
        check.dueThrow("taken", 0, z::restore);
    }

    private void lengthAndLook() {
        about(8, "How many instructions the original or (present) the present program has;");
        PassPipeline x = taken(crowd());
        check.due("length(false)", 9, x.length(false));
        check.due("length(true)", 9, x.length(true));
        x.pass(PACK);
        check.due("packed: length(false)", 9, x.length(false));
        check.due("packed: length(true)", 8, x.length(true));
        x.allocate(4);
        check.due("allocated: length(false)", 9, x.length(false));
        check.due("allocated: length(true)", 8 + 6, x.length(true));
        about(8, "0 when there is none.");
        PassPipeline y = new PassPipeline();
        write(y, op(NOTHING), op(NOTHING));
        check.due("length(false)", 0, y.length(false));
        check.due("length(true)", 0, y.length(true));
        check.due("a take that throws", Check.ARGUMENT, y::take);
        check.due("length(false)", 0, y.length(false));
        check.due("length(true)", 0, y.length(true));
        look();
    }

    private void look() {
        about(9, "Of instruction i of the original or the present program: what 0 its kind, 1 d, 2 a, 3 b.");
        PassPipeline x = taken(op(NOTHING), op(ADD, 5, 6, 7), end(5));
        x.pass(PACK);
        int[] parts = {ADD, 5, 6, 7};
        for (int what = 0; what < 4; what++) {
            check.due("look(false, 1, " + what + ")", parts[what], x.look(false, 1, what));
            check.due("look(true, 0, " + what + ")", parts[what], x.look(true, 0, what));
        }
        about(9, "IllegalArgumentException: no such what;");
        for (int what : FAR) {
            check.due("look(false, 0, " + what + ")", Check.ARGUMENT, () -> x.look(false, 0, what));
            check.due("look(true, 0, " + what + ")", Check.ARGUMENT, () -> x.look(true, 0, what));
        }
        check.due("look(false, 0, 4)", Check.ARGUMENT, () -> x.look(false, 0, 4));
        check.due("look(true, 0, 4)", Check.ARGUMENT, () -> x.look(true, 0, 4));
        about(9, "NoSuchElementException: no such instruction.");
        for (int i : FAR) {
            check.due("look(false, " + i + ", 0)", Check.ELEMENT, () -> x.look(false, i, 0));
            check.due("look(true, " + i + ", 0)", Check.ELEMENT, () -> x.look(true, i, 0));
        }
        check.due("look(false, 2, 0)", RETURN, () -> x.look(false, 2, 0));
        check.due("look(false, 3, 0)", Check.ELEMENT, () -> x.look(false, 3, 0));
        check.due("look(true, 1, 0)", RETURN, () -> x.look(true, 1, 0));
        check.due("look(true, 2, 0)", Check.ELEMENT, () -> x.look(true, 2, 0));
        PassPipeline y = new PassPipeline();
        write(y, end(0));
        check.due("no program", Check.ELEMENT, () -> y.look(true, 0, 0));
        takeInto(x, end(0));
        check.due("what an earlier program had", Check.ELEMENT, () -> x.look(false, 1, 0));
    }

    private void pokeAndCell() {
        about(10, "The number with which memory begins in a cell, from now on.");
        PassPipeline x = taken(op(LOAD, 2, 0), plain(STORE, 0, 1), end(2));
        for (int cell = 0; cell < 8; cell++) {
            x.poke(cell, MIN + cell);
        }
        for (int cell = 0; cell < 8; cell++) {
            dueValue("cell " + cell, MIN + cell, x, cell, 5);
        }
        dueValue("in each run", MIN + 7, x, 7, 5);
        x.poke(7, MAX);
        dueValue("put anew", MAX, x, 7, 5);
        takeInto(x, op(LOAD, 2, 0), end(2));
        dueValue("for the next program, too", MAX, x, 7, 5);
        check.due("in the present one, too", 0, () -> x.run(true, 6, 5));
        check.due("in the present one, too", MIN + 6, x::value);
        about(10, "IllegalArgumentException: there is no such cell.");
        for (int cell : FAR) {
            check.dueThrow("poke(" + cell + ", 5)", Check.ARGUMENT, () -> x.poke(cell, 5));
        }
        check.dueThrow("poke(8, 5)", Check.ARGUMENT, () -> x.poke(8, 5));
        x.run(false, 0, 0);
        dueCells("nothing was put", x, MIN, MIN + 1, MIN + 2, MIN + 3, MIN + 4, MIN + 5, MIN + 6, MAX);
        cell();
    }

    private void cell() {
        about(13, "What a cell held when the latest run ended;");
        PassPipeline x = taken(plain(STORE, 0, 1), op(DIV, 2, 0, 1), end(2));
        x.poke(4, 44);
        x.poke(5, 55);
        x.run(false, 4, 9);
        dueCells("returned", x, 0, 0, 0, 0, 9, 55, 0, 0);
        x.poke(5, 56);
        x.poke(6, 66);
        dueCells("what the host puts later does not count", x, 0, 0, 0, 0, 9, 55, 0, 0);
        x.run(true, 3, 0);
        dueCells("ended otherwise", x, 0, 0, 0, 0, 44, 56, 66, 0);
        x.run(true, 8, 1);
        dueCells("ended by a cell that is not there", x, 0, 0, 0, 0, 44, 56, 66, 0);
        takeInto(x, end(0));
        x.pass(PACK);
        dueCells("a new program is no run", x, 0, 0, 0, 0, 44, 56, 66, 0);
        about(13, "what it begins with when there was none.");
        PassPipeline y = new PassPipeline();
        y.poke(0, MIN);
        y.poke(7, MAX);
        dueCells("no run", y, MIN, 0, 0, 0, 0, 0, 0, MAX);
        y.poke(7, 5);
        check.due("put anew", 5, () -> y.cell(7));
        takeInto(y, plain(STORE, 2, 0), end(0));
        check.due("taken is not run", MIN, () -> y.cell(0));
        about(13, "IllegalArgumentException: there is no such cell.");
        for (int cell : FAR) {
            check.due("cell(" + cell + ")", Check.ARGUMENT, () -> y.cell(cell));
            check.due("cell(" + cell + ") of a run", Check.ARGUMENT, () -> x.cell(cell));
        }
        check.due("cell(8)", Check.ARGUMENT, () -> y.cell(8));
        check.due("cell(8) of a run", Check.ARGUMENT, () -> x.cell(8));
    }

    private void run() {
        about(11, "Runs the original or the present program: how it ended, 0 .. 4.");
        PassPipeline x = taken(op(NOTHING), op(DIV, 2, 0, 1), op(LOAD, 3, 2), op(CALL, 4, 3), op(ZERO, 3, 3),
                op(JUMP, 5));
        x.poke(1, 11);
        x.pass(PACK);
        int[][] arguments = {{5, 0}, {8, 1}, {1, 1}, {0, 1}};
        int[] endings = {1, 2, 3, 4};
        int[] steps = {1, 2, 400, 3 + 16 * 2};
        for (int i = 0; i < 4; i++) {
            int[] given = arguments[i];
            dueEnding("the original", endings[i], steps[i], x, given[0], given[1]);
            check.due("the present one", endings[i], () -> x.run(true, given[0], given[1]));
            check.due("the present one, steps()", steps[i] == 400 ? 400 : steps[i] - 1, x.steps());
        }
        dueEnding("by RETURN", 0, 1, taken(end(0)), 1, 1);
        about(11, "IllegalStateException: there is none.");
        PassPipeline y = new PassPipeline();
        write(y, end(0));
        check.due("run(false, 0, 0)", Check.STATE, () -> y.run(false, 0, 0));
        check.due("run(true, 0, 0)", Check.STATE, () -> y.run(true, 0, 0));
        check.due("there was no run", Check.ELEMENT, y::value);
        check.due("there was no run", 0, y.steps());
    }

    private void valueTracedAndSteps() {
        about(12, "What the latest run returned.");
        PassPipeline x = taken(op(DIV, 2, 0, 1), end(2));
        dueValue("returned", MIN, x, MIN, 1);
        dueValue("returned", 0, x, 1, 2);
        check.due("asked again", 0, x::value);
        x.pass(PACK);
        takeInto(x, op(ZERO, 0, 0), op(DIV, 2, 0, 1), end(2));
        check.due("a new program is no run", 0, x::value);
        about(12, "NoSuchElementException: it ended otherwise,");
        x.run(false, 1, 0);
        check.due("by a division by 0", Check.ELEMENT, x::value);
        x.run(false, 0, 0);
        check.due("spent", Check.ELEMENT, x::value);
        dueValue("the next returned again", 7, x, 7, 1);
        about(12, "or there was none.");
        PassPipeline y = new PassPipeline();
        check.due("new", Check.ELEMENT, y::value);
        takeInto(y, end(0));
        check.due("taken", Check.ELEMENT, y::value);
        traced();
        steps();
    }

    private void traced() {
        about(14, "Number k of the latest run's trace.");
        PassPipeline x = taken(op(CALL, 2, 0), op(SUB, 0, 0, 1), op(ZERO, 4, 0), op(JUMP, 0), end(2));
        x.run(false, 16, 1);
        for (int k = 0; k < 16; k++) {
            int number = k;
            check.due("traced(" + k + ")", 16 - k, () -> x.traced(number));
        }
        about(14, "NoSuchElementException: there is none.");
        check.due("traced(16)", Check.ELEMENT, () -> x.traced(16));
        for (int k : FAR) {
            check.due("traced(" + k + ")", Check.ELEMENT, () -> x.traced(k));
        }
        x.run(true, 2, 1);
        check.due("of the latest run", 2, () -> x.traced(0));
        check.due("of the latest run", 1, () -> x.traced(1));
        check.due("not of the one before", Check.ELEMENT, () -> x.traced(2));
        takeInto(x, end(0));
        check.due("a new program is no run", 1, () -> x.traced(1));
        x.run(true, 2, 1);
        check.due("a run without a CALL", Check.ELEMENT, () -> x.traced(0));
        check.due("no run", Check.ELEMENT, () -> new PassPipeline().traced(0));
    }

    private void steps() {
        about(15, "How many instructions the latest run did (RETURN, too, but none that ended it otherwise;");
        PassPipeline x = taken(op(ZERO, 3, 0), op(DIV, 2, 0, 1), end(2), op(LOAD, 2, 1), op(CALL, 2, 0), op(JUMP, 4));
        dueEnding("RETURN", 0, 3, x, 1, 1);
        dueEnding("DIV", 1, 1, x, 1, 0);
        dueEnding("LOAD", 2, 1, x, 0, 8);
        dueEnding("CALL", 4, 2 + 16 * 2, x, 0, 7);
        dueEnding("spent", 3, 400, taken(op(JUMP, 0)), 0, 7);
        check.due("asked again", 2 + 16 * 2, x.steps());
        about(15, "0 without a run).");
        PassPipeline y = new PassPipeline();
        check.due("new", 0, y.steps());
        takeInto(y, end(0));
        y.pass(PACK);
        check.due("taken", 0, y.steps());
        y.run(true, 0, 0);
        check.due("run", 1, y.steps());
        takeInto(y, end(0));
        check.due("a new program is no run", 1, y.steps());
    }

    private void wholeObject() {
        check.about("What it is", "run in its original and in its present form, which do the same as long as neither is"
                + " spent.");
        PassPipeline x = taken(op(NOTHING), op(SUB, 0, 0, 1), op(ZERO, 4, 0), op(JUMP, 0), plain(STORE, 0, 1), end(1));
        x.pass(PACK);
        check.due("the original is spent", 3, () -> x.run(false, 110, 1));
        check.due("the present one is not", 0, () -> x.run(true, 110, 1));
        check.due("and returns", 1, x::value);
        check.due("neither is spent", 0, () -> x.run(false, 90, 1));
        check.due("neither is spent", 1, x::value);
        PassPipeline y = taken(op(SUB, 2, 0, 1), op(MOVE, 0, 2), op(ADD, 3, 3, 1), op(ADD, 4, 4, 3), op(ADD, 5, 5, 4),
                op(ZERO, 7, 0), op(JUMP, 0), op(SUB, 3, 3, 5), end(3));
        check.due("slots", 3, () -> y.allocate(4));
        check.due("the original is not spent", 0, () -> y.run(false, 50, 1));
        check.due("the present one, with slots, is", 3, () -> y.run(true, 50, 1));
        check.due("neither is spent", 0, () -> y.run(true, 3, 1));
        check.due("neither is spent", 3 - (1 + 3 + 6), y::value);
        upToCall512();
    }

    private void upToCall512() {
        check.about("What it is", "An object is used for at most 512 calls after it has been made;");
        PassPipeline x = new PassPipeline();
        write(x, op(CALL, 2, 0), op(ADD, 2, 2, 1), end(2));
        check.due("call 4", 3, x::take);
        for (int call = 5; call <= 510; call += 2) {
            check.due("call " + call, 0, () -> x.run(true, 7, 8));
            check.due("call " + (call + 1), 7 * 3 + 1 + 8, x::value);
        }
        check.due("call 511", 0, () -> x.instruction(RETURN, 0, 0, 0));
        check.due("call 512", 1, x::take);
    }
}
