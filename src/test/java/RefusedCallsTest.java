import java.util.ArrayList;
import java.util.List;
import java.util.function.Supplier;
import java.util.function.ToLongFunction;

/**
 * "Of two exceptions the one that a call names first is thrown; a call that throws changes nothing, but as said.":
 * each call that can be refused, in each of several states, and then all answers side by side with those of a twin
 * that was not asked.
 */
final class RefusedCallsTest extends Tester {
    /** What of a state decides whether a call is refused in it. */
    private record State(String name, Supplier<PassPipeline> made, boolean program, boolean allocated, int draft,
            boolean crowded, boolean returned, int trace) {
    }

    private record Call(String name, ToLongFunction<PassPipeline> asked, ToLongFunction<State> due) {
    }

    /** Due of a call that is not refused in a state. */
    private static final long ANSWERED = 0;
    private static final int[] FAR = {MIN, -1, 256, MAX};

    private final List<Call> calls = new ArrayList<>();
    private int refused = 0;

    private RefusedCallsTest() {
        super("RefusedCallsTest");
    }

    public static void main(String[] args) {
        RefusedCallsTest test = new RefusedCallsTest();
        test.listCalls();
        test.firstOfTwoExceptions();
        test.changesNothing();
        test.takeEmptiesTheDraft();
        test.check.end();
    }

    private static List<State> states() {
        return List.of(
                new State("new", PassPipeline::new, false, false, 0, false, false, 0),
                new State("a draft", RefusedCallsTest::draft, false, false, 2, false, false, 0),
                new State("a full draft", RefusedCallsTest::fullDraft, false, false, 24, false, false, 0),
                new State("taken", RefusedCallsTest::crowdTaken, true, false, 0, true, false, 0),
                new State("run", RefusedCallsTest::run, true, false, 1, false, true, 2),
                new State("changed", RefusedCallsTest::changed, true, false, 24, false, false, 1),
                new State("allocated", RefusedCallsTest::allocated, true, true, 0, true, true, 1),
                new State("restored", RefusedCallsTest::restored, true, false, 24, true, true, 1));
    }

    private static PassPipeline draft() {
        PassPipeline x = new PassPipeline();
        x.poke(3, 33);
        write(x, op(LOAD, 2, 1), end(2));
        return x;
    }

    private static void fill(PassPipeline x) {
        for (int i = 0; i < 24; i++) {
            x.instruction(RETURN, 0, i % 8, 0);
        }
    }

    private static PassPipeline fullDraft() {
        PassPipeline x = new PassPipeline();
        x.poke(7, 77);
        fill(x);
        return x;
    }

    private static PassPipeline crowdTaken() {
        return taken(op(CONST, 2, 1), op(CONST, 3, 2), op(CALL, 4, 3), plain(STORE, 4, 3), op(SUB, 0, 0, 2),
                op(SUB, 0, 0, 3), op(SUB, 0, 0, 4), op(SUB, 0, 0, 1), end(0));
    }

    private static PassPipeline run() {
        PassPipeline x = taken(op(CALL, 2, 0), op(CALL, 2, 2), op(NOTHING), plain(STORE, 1, 2), end(2));
        x.poke(2, 22);
        x.run(false, 3, 1);
        write(x, op(JUMP, 0));
        return x;
    }

    private static PassPipeline changed() {
        PassPipeline x = taken(op(CALL, 2, 0), op(MOVE, 3, 4), op(NOTHING), op(CONST, 5, 9), op(LOAD, 3, 1), end(3));
        x.pass(FOLD);
        x.pass(DROP);
        x.pass(PACK);
        x.poke(0, MIN);
        x.run(true, 3, 8);
        fill(x);
        return x;
    }

    private static PassPipeline allocated() {
        PassPipeline x = crowdTaken();
        x.allocate(4);
        x.poke(5, 55);
        x.run(true, 100, 10);
        return x;
    }

    private static PassPipeline restored() {
        PassPipeline x = allocated();
        x.restore();
        fill(x);
        return x;
    }

    private void list(String name, ToLongFunction<PassPipeline> asked, ToLongFunction<State> due) {
        calls.add(new Call(name, asked, due));
    }

    private static long done(Runnable call) {
        call.run();
        return ANSWERED;
    }

    private void listCalls() {
        listInstruction();
        listPass();
        listAllocate();
        listHomeAndRestore();
        listLook();
        listMemory();
        listRuns();
    }

    private void listInstruction() {
        int[][] wrong = {op(-1), op(13), op(14), op(CONST, 8), op(MOVE, -1, 0), op(ADD, 0, 8, 0), op(SUB, 0, 0, -1),
            op(MUL, 0, 0, 8), op(DIV, 0, MIN, 0), op(LOAD, MAX, 0), plain(STORE, 8, 0), plain(STORE, 0, 8),
            op(JUMP, 24), op(JUMP, -1), op(ZERO, 24, 0), op(ZERO, 0, 8), op(CALL, 8, 0), op(CALL, 0, 8), end(8)};
        for (int[] row : wrong) {
            list("instruction(" + row[0] + ", " + row[1] + ", " + row[2] + ", " + row[3] + ")",
                    x -> x.instruction(row[0], row[1], row[2], row[3]), s -> Check.ARGUMENT);
        }
        for (int kind = 0; kind <= 12; kind++) {
            int given = kind;
            list("instruction(" + kind + ", 0, 0, 0)", x -> x.instruction(given, 0, 0, 0),
                    s -> s.draft() == 24 ? Check.STATE : ANSWERED);
        }
        list("take()", PassPipeline::take, s -> s.draft() == 0 ? Check.ARGUMENT : ANSWERED);
    }

    private void listPass() {
        for (int pass : FAR) {
            list("pass(" + pass + ")", x -> x.pass(pass), s -> Check.ARGUMENT);
        }
        list("pass(4)", x -> x.pass(4), s -> Check.ARGUMENT);
        for (int pass = 0; pass < 4; pass++) {
            int given = pass;
            list("pass(" + pass + ")", x -> x.pass(given), s -> !s.program() || s.allocated() ? Check.STATE : ANSWERED);
        }
    }

    private void listAllocate() {
        for (int k : FAR) {
            list("allocate(" + k + ")", x -> x.allocate(k), s -> Check.ARGUMENT);
        }
        list("allocate(1)", x -> x.allocate(1), s -> Check.ARGUMENT);
        list("allocate(9)", x -> x.allocate(9), s -> Check.ARGUMENT);
        for (int k = 2; k <= 8; k++) {
            int given = k;
            list("allocate(" + k + ")", x -> x.allocate(given),
                    s -> !s.program() || s.allocated() || given < 4 && s.crowded() ? Check.STATE : ANSWERED);
        }
    }

    private void listHomeAndRestore() {
        for (int register : FAR) {
            list("home(" + register + ")", x -> x.home(register), s -> Check.ARGUMENT);
        }
        list("home(8)", x -> x.home(8), s -> Check.ARGUMENT);
        list("home(0)", x -> x.home(0), s -> s.allocated() ? ANSWERED : Check.ELEMENT);
        list("home(7)", x -> x.home(7), s -> s.allocated() ? ANSWERED : Check.ELEMENT);
        list("restore()", x -> done(x::restore), s -> s.program() ? ANSWERED : Check.STATE);
    }

    private void listLook() {
        for (int which = 0; which < 2; which++) {
            boolean present = which == 1;
            for (int far : FAR) {
                list("look(" + present + ", 0, " + far + ")", x -> x.look(present, 0, far), s -> Check.ARGUMENT);
                list("look(" + present + ", " + far + ", 0)", x -> x.look(present, far, 0), s -> Check.ELEMENT);
                list("look(" + present + ", " + far + ", 4)", x -> x.look(present, far, 4), s -> Check.ARGUMENT);
            }
            list("look(" + present + ", 0, 4)", x -> x.look(present, 0, 4), s -> Check.ARGUMENT);
            list("look(" + present + ", length, 0)", x -> x.look(present, x.length(present), 0), s -> Check.ELEMENT);
        }
    }

    private void listMemory() {
        for (int cell : FAR) {
            list("poke(" + cell + ", 5)", x -> done(() -> x.poke(cell, 5)), s -> Check.ARGUMENT);
            list("cell(" + cell + ")", x -> x.cell(cell), s -> Check.ARGUMENT);
        }
        list("poke(8, 5)", x -> done(() -> x.poke(8, 5)), s -> Check.ARGUMENT);
        list("cell(8)", x -> x.cell(8), s -> Check.ARGUMENT);
    }

    private void listRuns() {
        list("run(false, 1, 2)", x -> x.run(false, 1, 2), s -> s.program() ? ANSWERED : Check.STATE);
        list("run(true, 1, 2)", x -> x.run(true, 1, 2), s -> s.program() ? ANSWERED : Check.STATE);
        list("value()", PassPipeline::value, s -> s.returned() ? ANSWERED : Check.ELEMENT);
        for (int k : FAR) {
            list("traced(" + k + ")", x -> x.traced(k), s -> Check.ELEMENT);
        }
        for (int k = 0; k <= 16; k++) {
            int given = k;
            list("traced(" + k + ")", x -> x.traced(given), s -> given < s.trace() ? ANSWERED : Check.ELEMENT);
        }
    }

    private void firstOfTwoExceptions() {
        check.about("Terms", "Of two exceptions the one that a call names first is thrown;");
        PassPipeline full = fullDraft();
        check.due("instruction, full, kind 13", Check.ARGUMENT, () -> full.instruction(13, 0, 0, 0));
        check.due("instruction, full, register 8", Check.ARGUMENT, () -> full.instruction(RETURN, 0, 8, 0));
        check.due("instruction, full, JUMP 24", Check.ARGUMENT, () -> full.instruction(JUMP, 24, 0, 0));
        check.due("instruction, full", Check.STATE, () -> full.instruction(JUMP, 23, 0, 0));
        PassPipeline none = new PassPipeline();
        PassPipeline allocated = allocated();
        for (PassPipeline x : new PassPipeline[] {none, allocated}) {
            check.due("pass, no such one", Check.ARGUMENT, () -> x.pass(4));
            check.due("pass", Check.STATE, () -> x.pass(3));
            check.due("allocate, no such k", Check.ARGUMENT, () -> x.allocate(9));
            check.due("allocate, no such k", Check.ARGUMENT, () -> x.allocate(1));
            check.due("allocate", Check.STATE, () -> x.allocate(8));
        }
        check.due("home, not allocated, no such register", Check.ARGUMENT, () -> none.home(8));
        check.due("home, not allocated", Check.ELEMENT, () -> none.home(7));
        check.due("look, no such instruction, no such what", Check.ARGUMENT, () -> none.look(true, 0, 4));
        check.due("look, no such instruction, no such what", Check.ARGUMENT, () -> allocated.look(false, -1, -1));
        check.due("look, no such instruction", Check.ELEMENT, () -> none.look(true, 0, 3));
    }

    private void changesNothing() {
        check.about("Terms", "a call that throws changes nothing, but as said.");
        for (State state : states()) {
            for (Call call : calls) {
                if (call.due().applyAsLong(state) != ANSWERED) {
                    askAndCompare(state, call);
                }
            }
        }
        check.due("most calls are refused in some state", 1, refused > 700 ? 1 : 0);
    }

    private void askAndCompare(State state, Call call) {
        refused++;
        PassPipeline asked = state.made().get();
        PassPipeline twin = state.made().get();
        String test = state.name() + ": " + call.name();
        for (int time = 0; time < 2; time++) {
            check.due(test, call.due().applyAsLong(state), () -> call.asked().applyAsLong(asked));
        }
        sameAnswers(test, answers(twin), answers(asked));
    }

    private void sameAnswers(String test, List<String> due, List<String> got) {
        check.due(() -> test + ", then " + due + " answered " + got, 1, due.equals(got) ? 1 : 0);
    }

    /** Some 300 calls that show all that an object holds: its runs, programs, homes, memory and draft. */
    private static List<String> answers(PassPipeline x) {
        List<String> all = new ArrayList<>();
        addLatestRun(all, x);
        addProgram(all, x, false);
        addProgram(all, x, true);
        for (int r = 0; r < 8; r++) {
            int register = r;
            add(all, "home", () -> x.home(register));
        }
        for (int which = 0; which < 2; which++) {
            boolean present = which == 0;
            add(all, "run", () -> x.run(present, 2, 6));
            addLatestRun(all, x);
        }
        add(all, "pass", () -> x.pass(PACK));
        add(all, "instruction", () -> x.instruction(RETURN, 0, 1, 0));
        add(all, "take", x::take);
        add(all, "run", () -> x.run(true, 2, 6));
        add(all, "value", x::value);
        add(all, "length", () -> x.length(false));
        return all;
    }

    private static void add(List<String> all, String call, java.util.function.LongSupplier asked) {
        all.add(call + " " + Check.answer(asked));
    }

    private static void addLatestRun(List<String> all, PassPipeline x) {
        add(all, "value", x::value);
        add(all, "steps", x::steps);
        for (int i = 0; i < 8; i++) {
            int cell = i;
            add(all, "cell", () -> x.cell(cell));
        }
        for (int i = 0; i < 4; i++) {
            int k = i;
            add(all, "traced", () -> x.traced(k));
        }
    }

    private static void addProgram(List<String> all, PassPipeline x, boolean present) {
        add(all, "length", () -> x.length(present));
        for (int i = 0; i < x.length(present) * 4; i++) {
            int at = i;
            add(all, "look", () -> x.look(present, at / 4, at % 4));
        }
    }

    private void takeEmptiesTheDraft() {
        check.about("Promise 3", "and is empty afterwards, also when this throws:");
        int[][][] drafts = {{op(NOTHING)}, {end(0), op(CONST, 2, 5)}, {op(JUMP, 1)}, {op(ZERO, 3, 0), end(0)},
            {op(ZERO, 1, 0), op(CALL, 2, 3)}};
        for (State state : states()) {
            if (state.draft() != 0) {
                continue;
            }
            for (int[][] rows : drafts) {
                PassPipeline asked = state.made().get();
                write(asked, rows);
                check.due(state.name() + ": take()", Check.ARGUMENT, asked::take);
                sameAnswers(state.name() + ": take()", answers(state.made().get()), answers(asked));
            }
        }
    }
}
