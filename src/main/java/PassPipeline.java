import java.util.Arrays;
import java.util.NoSuchElementException;

/**
 * The middle end of a compiler for programs of at most 24 instructions: it keeps a draft, the original program
 * and the present one, changes the present one by passes and by allocation, and runs either of the two.
 */
public final class PassPipeline {
    private static final int NOTHING = 0;
    private static final int CONST = 1;
    private static final int MOVE = 2;
    private static final int ADD = 3;
    private static final int SUB = 4;
    private static final int MUL = 5;
    private static final int DIV = 6;
    private static final int LOAD = 7;
    private static final int STORE = 8;
    private static final int JUMP = 9;
    private static final int ZERO = 10;
    private static final int CALL = 11;
    private static final int RETURN = 12;
    private static final int RELOAD = 13;
    private static final int SPILL = 14;

    private static final int FOLD = 0;
    private static final int SHARE = 1;
    private static final int DROP = 2;
    private static final int PACK = 3;

    private static final int REGISTERS = 8;
    private static final int CELLS = 8;
    private static final int DRAFT_LIMIT = 24;
    /** Allocation makes at most two RELOADs and one SPILL beside each instruction. */
    private static final int ALLOCATED_LIMIT = 96;
    private static final int TRACE_LIMIT = 16;
    private static final int STEP_LIMIT = 400;
    private static final int FEWEST_MACHINE_REGISTERS = 2;
    private static final int FEWEST_WITH_HELPERS = 4;
    private static final int HELPERS = 2;
    /** Homes from this number on are slots. */
    private static final int FIRST_SLOT = 8;
    /** The arguments' registers, as a set of bits. */
    private static final int ARGUMENTS = 3;
    private static final int ALL_REGISTERS = 255;
    private static final int NOWHERE = -1;

    private static final int RETURNED = 0;
    private static final int DIVIDED_BY_ZERO = 1;
    private static final int NO_SUCH_CELL = 2;
    private static final int SPENT = 3;
    private static final int TRACE_FULL = 4;
    private static final int GOING_ON = -1;

    /** Far above the 24 * 17 changes that the longest analysis can make. */
    private static final int ROUNDS = 1000;

    private final Program draft = new Program(DRAFT_LIMIT);
    private final Program original = new Program(DRAFT_LIMIT);
    private final Program present = new Program(ALLOCATED_LIMIT);
    private final Liveness liveness = new Liveness();
    private final Folding folding = new Folding();
    private final Sharing sharing = new Sharing();
    private final Packing packing = new Packing();
    private final Allocation allocation = new Allocation();
    private final Machine machine = new Machine();
    private boolean taken = false;
    private boolean allocated = false;

    public PassPipeline() {
    }

    public int instruction(int kind, int d, int a, int b) throws IllegalArgumentException, IllegalStateException {
        if (!Kinds.fitsDraft(kind, d, a, b)) {
            throw new IllegalArgumentException("no such instruction");
        }
        if (draft.count >= DRAFT_LIMIT) {
            throw new IllegalStateException("the draft is full");
        }
        int keptD = Kinds.writesD(kind) || Kinds.goesToD(kind) ? d : 0;
        int keptA = Kinds.readsA(kind) || kind == CONST ? a : 0;
        int keptB = Kinds.readsB(kind) ? b : 0;
        draft.append(kind, keptD, keptA, keptB);
        return draft.count - 1;
    }

    public int take() throws IllegalArgumentException {
        if (!draft.isWhole()) {
            draft.clear();
            throw new IllegalArgumentException("the draft is no program");
        }
        original.copyFrom(draft);
        present.copyFrom(draft);
        draft.clear();
        taken = true;
        allocated = false;
        return original.count;
    }

    public int pass(int pass) throws IllegalArgumentException, IllegalStateException {
        if (pass < FOLD || pass > PACK) {
            throw new IllegalArgumentException("no such pass");
        }
        if (!taken || allocated) {
            throw new IllegalStateException("no program that a pass could change");
        }
        switch (pass) {
            case FOLD:
                return folding.fold(present);
            case SHARE:
                return sharing.share(present);
            case DROP:
                return dropAll();
            default:
                return packing.pack(present);
        }
    }

    public int allocate(int k) throws IllegalArgumentException, IllegalStateException {
        if (k < FEWEST_MACHINE_REGISTERS || k > REGISTERS) {
            throw new IllegalArgumentException("no such number of machine registers");
        }
        if (!taken || allocated) {
            throw new IllegalStateException("no program to allocate");
        }
        liveness.find(present);
        allocation.findConflicts(present, liveness);
        if (allocation.settle(k) > 0) {
            if (k < FEWEST_WITH_HELPERS) {
                throw new IllegalStateException("too few machine registers");
            }
            allocation.settle(k - HELPERS);
        }
        allocation.rewrite(present, k);
        allocated = true;
        return allocation.slots;
    }

    public int home(int register) throws IllegalArgumentException, NoSuchElementException {
        if (!Kinds.isRegister(register)) {
            throw new IllegalArgumentException("no such register");
        }
        if (!allocated) {
            throw new NoSuchElementException("not allocated");
        }
        return allocation.homes[register];
    }

    public void restore() throws IllegalStateException {
        if (!taken) {
            throw new IllegalStateException("no program");
        }
        present.copyFrom(original);
        allocated = false;
    }

    public int length(boolean present) {
        return chosen(present).count;
    }

    public int look(boolean present, int i, int what) throws IllegalArgumentException, NoSuchElementException {
        if (what < 0 || what > 3) {
            throw new IllegalArgumentException("no such part of an instruction");
        }
        Program program = chosen(present);
        if (i < 0 || i >= program.count) {
            throw new NoSuchElementException("no such instruction");
        }
        switch (what) {
            case 0:
                return program.kind[i];
            case 1:
                return program.d[i];
            case 2:
                return program.a[i];
            default:
                return program.b[i];
        }
    }

    public void poke(int cell, int value) throws IllegalArgumentException {
        if (!Kinds.isCell(cell)) {
            throw new IllegalArgumentException("no such cell");
        }
        machine.beginning[cell] = value;
    }

    public int run(boolean present, int x, int y) throws IllegalStateException {
        if (!taken) {
            throw new IllegalStateException("no program");
        }
        machine.execute(chosen(present), x, y);
        return machine.ending;
    }

    public int value() throws NoSuchElementException {
        if (machine.ending != RETURNED) {
            throw new NoSuchElementException("no run that returned");
        }
        return machine.returned;
    }

    public int cell(int cell) throws IllegalArgumentException {
        if (!Kinds.isCell(cell)) {
            throw new IllegalArgumentException("no such cell");
        }
        return machine.ending == GOING_ON ? machine.beginning[cell] : machine.memory[cell];
    }

    public int traced(int k) throws NoSuchElementException {
        if (k < 0 || k >= machine.traceCount) {
            throw new NoSuchElementException("no such number in the trace");
        }
        return machine.trace[k];
    }

    public int steps() {
        return machine.done;
    }

    private Program chosen(boolean wantsPresent) {
        return wantsPresent ? present : original;
    }

    private int dropAll() {
        int dropped = 0;
        int before = -1;
        for (int round = 0; round <= DRAFT_LIMIT && dropped != before; round++) {
            before = dropped;
            liveness.find(present);
            dropped += liveness.dropUnused(present);
        }
        return dropped;
    }

    /** What an instruction of each kind names, reads, writes and gives. */
    private static final class Kinds {
        static boolean isRegister(int number) {
            return number >= 0 && number < REGISTERS;
        }

        static boolean isCell(int number) {
            return number >= 0 && number < CELLS;
        }

        static boolean writesD(int kind) {
            return kind >= CONST && kind <= LOAD || kind == CALL;
        }

        static boolean readsA(int kind) {
            return kind >= MOVE && kind <= STORE || kind == ZERO || kind == CALL || kind == RETURN;
        }

        static boolean readsB(int kind) {
            return isArithmetic(kind) || kind == STORE;
        }

        static boolean goesToD(int kind) {
            return kind == JUMP || kind == ZERO;
        }

        static boolean isArithmetic(int kind) {
            return kind >= ADD && kind <= DIV;
        }

        /** Neither ends a run nor is seen from outside, so that it may be dropped. */
        static boolean onlyGivesD(int kind) {
            return kind >= CONST && kind <= MUL;
        }

        static boolean fitsDraft(int kind, int d, int a, int b) {
            if (kind < NOTHING || kind > RETURN) {
                return false;
            }
            if (goesToD(kind) && (d < 0 || d >= DRAFT_LIMIT)) {
                return false;
            }
            return (!writesD(kind) || isRegister(d))
                    && (!readsA(kind) || isRegister(a))
                    && (!readsB(kind) || isRegister(b));
        }

        /** Callers see to it that a division has a divisor; 0 stands where there is no answer. */
        static int compute(int kind, int x, int y) {
            switch (kind) {
                case ADD:
                    return x + y;
                case SUB:
                    return x - y;
                case MUL:
                    return x * y;
                case DIV:
                    return y == 0 ? 0 : x / y;
                default:
                    return 0;
            }
        }
    }

    /** A row of instructions. */
    private static final class Program {
        final int[] kind;
        final int[] d;
        final int[] a;
        final int[] b;
        int count = 0;

        Program(int limit) {
            kind = new int[limit];
            d = new int[limit];
            a = new int[limit];
            b = new int[limit];
        }

        void clear() {
            count = 0;
        }

        void append(int newKind, int newD, int newA, int newB) {
            if (count < kind.length) {
                count++;
                put(count - 1, newKind, newD, newA, newB);
            }
        }

        /** Answers whether this made it another instruction, since passes count these. */
        boolean put(int i, int newKind, int newD, int newA, int newB) {
            boolean same = kind[i] == newKind && d[i] == newD && a[i] == newA && b[i] == newB;
            kind[i] = newKind;
            d[i] = newD;
            a[i] = newA;
            b[i] = newB;
            return !same;
        }

        void copyFrom(Program other) {
            count = 0;
            for (int i = 0; i < other.count; i++) {
                append(other.kind[i], other.d[i], other.a[i], other.b[i]);
            }
        }

        boolean isWhole() {
            if (count == 0 || kind[count - 1] != JUMP && kind[count - 1] != RETURN) {
                return false;
            }
            for (int i = 0; i < count; i++) {
                if (Kinds.goesToD(kind[i]) && d[i] >= count) {
                    return false;
                }
            }
            return true;
        }

        /** The instruction behind i if it may follow i; a DIV by 0 may be last, with none behind it. */
        int follower(int i) {
            boolean goesOn = kind[i] != JUMP && kind[i] != RETURN && i + 1 < count;
            return goesOn ? i + 1 : NOWHERE;
        }

        int target(int i) {
            return Kinds.goesToD(kind[i]) && d[i] < count ? d[i] : NOWHERE;
        }

        boolean isTarget(int t) {
            for (int i = 0; i < count; i++) {
                if (Kinds.goesToD(kind[i]) && d[i] == t) {
                    return true;
                }
            }
            return false;
        }
    }

    /** Which registers are live before each instruction, as sets of bits. */
    private static final class Liveness {
        final int[] before = new int[DRAFT_LIMIT];

        void find(Program program) {
            Arrays.fill(before, 0);
            boolean changed = true;
            for (int round = 0; changed && round < ROUNDS; round++) {
                changed = sweep(program);
            }
        }

        private boolean sweep(Program program) {
            boolean changed = false;
            for (int i = program.count - 1; i >= 0; i--) {
                int live = liveBefore(program, i);
                changed = changed || live != before[i];
                before[i] = live;
            }
            return changed;
        }

        private int liveBefore(Program program, int i) {
            int kind = program.kind[i];
            int live = after(program, i);
            if (Kinds.writesD(kind)) {
                live &= ~(1 << program.d[i]);
            }
            if (Kinds.readsA(kind)) {
                live |= 1 << program.a[i];
            }
            if (Kinds.readsB(kind)) {
                live |= 1 << program.b[i];
            }
            return live;
        }

        int after(Program program, int i) {
            int follower = program.follower(i);
            int target = program.target(i);
            int live = follower == NOWHERE ? 0 : before[follower];
            return target == NOWHERE ? live : live | before[target];
        }

        /** Drops by what was found before, so that all of one round go at once. */
        int dropUnused(Program program) {
            int dropped = 0;
            for (int i = 0; i < program.count; i++) {
                boolean unused = (after(program, i) >> program.d[i] & 1) == 0;
                if (Kinds.onlyGivesD(program.kind[i]) && unused) {
                    program.put(i, NOTHING, 0, 0, 0);
                    dropped++;
                }
            }
            return dropped;
        }
    }

    /** FOLD: which instructions are reached, and which registers have a number before them. */
    private static final class Folding {
        private final boolean[] reached = new boolean[DRAFT_LIMIT];
        /** Sets of registers that have a number; the others have anything. */
        private final int[] known = new int[DRAFT_LIMIT];
        private final int[] numbers = new int[DRAFT_LIMIT * REGISTERS];
        /** What the registers have behind the instruction that is looked at. */
        private int flowingKnown = 0;
        private final int[] flowing = new int[REGISTERS];
        private boolean changed = false;

        int fold(Program program) {
            begin();
            for (int round = 0; changed && round < ROUNDS; round++) {
                changed = false;
                for (int i = 0; i < program.count; i++) {
                    if (reached[i]) {
                        follow(program, i);
                    }
                }
            }
            return rewriteAll(program);
        }

        private void begin() {
            for (int i = 0; i < DRAFT_LIMIT; i++) {
                reached[i] = false;
            }
            Arrays.fill(flowing, 0);
            flowingKnown = ALL_REGISTERS & ~ARGUMENTS;
            flowTo(0);
        }

        private void follow(Program program, int i) {
            int kind = program.kind[i];
            if (kind == DIV && isZero(i, program.b[i])) {
                return;
            }
            System.arraycopy(numbers, i * REGISTERS, flowing, 0, REGISTERS);
            flowingKnown = known[i];
            if (Kinds.writesD(kind)) {
                write(program, i);
            }
            boolean decided = kind == ZERO && knows(i, program.a[i]);
            if (!decided || !isZero(i, program.a[i])) {
                flowTo(program.follower(i));
            }
            if (!decided || isZero(i, program.a[i])) {
                flowTo(program.target(i));
            }
        }

        private void write(Program program, int i) {
            int register = program.d[i];
            if (givesNumber(program, i)) {
                flowingKnown |= 1 << register;
                flowing[register] = givenNumber(program, i);
            } else {
                flowingKnown &= ~(1 << register);
            }
        }

        private void flowTo(int i) {
            if (i == NOWHERE) {
                return;
            }
            if (!reached[i]) {
                reached[i] = true;
                known[i] = flowingKnown;
                System.arraycopy(flowing, 0, numbers, i * REGISTERS, REGISTERS);
                changed = true;
                return;
            }
            int agreed = known[i] & flowingKnown & sameNumbers(i);
            changed = changed || agreed != known[i];
            known[i] = agreed;
        }

        private int sameNumbers(int i) {
            int same = 0;
            for (int r = 0; r < REGISTERS; r++) {
                if (numbers[i * REGISTERS + r] == flowing[r]) {
                    same |= 1 << r;
                }
            }
            return same;
        }

        private boolean knows(int i, int register) {
            return (known[i] >> register & 1) == 1;
        }

        private int number(int i, int register) {
            return numbers[i * REGISTERS + register];
        }

        private boolean isZero(int i, int register) {
            return knows(i, register) && number(i, register) == 0;
        }

        private boolean givesNumber(Program program, int i) {
            int kind = program.kind[i];
            if (kind == CONST) {
                return true;
            }
            if (kind == MOVE) {
                return knows(i, program.a[i]);
            }
            boolean divides = kind == DIV && isZero(i, program.b[i]);
            return Kinds.isArithmetic(kind) && !divides && knows(i, program.a[i]) && knows(i, program.b[i]);
        }

        private int givenNumber(Program program, int i) {
            int kind = program.kind[i];
            if (kind == CONST) {
                return program.a[i];
            }
            int x = number(i, program.a[i]);
            return kind == MOVE ? x : Kinds.compute(kind, x, number(i, program.b[i]));
        }

        private int rewriteAll(Program program) {
            int others = 0;
            for (int i = 0; i < program.count; i++) {
                if (rewriteOne(program, i)) {
                    others++;
                }
            }
            return others;
        }

        private boolean rewriteOne(Program program, int i) {
            int kind = program.kind[i];
            if (!reached[i]) {
                return program.put(i, NOTHING, 0, 0, 0);
            }
            if (Kinds.writesD(kind) && givesNumber(program, i)) {
                return program.put(i, CONST, program.d[i], givenNumber(program, i), 0);
            }
            if (kind == ZERO && isZero(i, program.a[i])) {
                return program.put(i, JUMP, program.d[i], 0, 0);
            }
            if (kind == ZERO && knows(i, program.a[i])) {
                return program.put(i, NOTHING, 0, 0, 0);
            }
            return false;
        }
    }

    /** SHARE: values are numbers; equal ones are found in a table of what gave them in this block. */
    private static final class Sharing {
        private final int[] held = new int[REGISTERS];
        private final int[] entryKind = new int[DRAFT_LIMIT];
        private final int[] entryX = new int[DRAFT_LIMIT];
        private final int[] entryY = new int[DRAFT_LIMIT];
        private final int[] entryValue = new int[DRAFT_LIMIT];
        private int entries = 0;
        private int nextValue = 0;

        int share(Program program) {
            int others = 0;
            for (int i = 0; i < program.count; i++) {
                if (beginsBlock(program, i)) {
                    forgetAll();
                }
                if (shareOne(program, i)) {
                    others++;
                }
            }
            return others;
        }

        private boolean beginsBlock(Program program, int i) {
            if (i == 0 || program.isTarget(i)) {
                return true;
            }
            int previous = program.kind[i - 1];
            return Kinds.goesToD(previous) || previous == RETURN;
        }

        private void forgetAll() {
            for (int r = 0; r < REGISTERS; r++) {
                held[r] = r;
            }
            nextValue = REGISTERS;
            entries = 0;
        }

        private boolean shareOne(Program program, int i) {
            int kind = program.kind[i];
            int d = program.d[i];
            int a = Kinds.readsA(kind) ? lowestHolder(held[program.a[i]]) : program.a[i];
            int b = Kinds.readsB(kind) ? lowestHolder(held[program.b[i]]) : program.b[i];
            if (!Kinds.writesD(kind)) {
                return program.put(i, kind, d, a, b);
            }
            int given = givenValue(kind, a, b);
            int holder = Kinds.onlyGivesD(kind) ? lowestHolder(given) : NOWHERE;
            boolean heldAlready = holder != NOWHERE && held[d] == given;
            held[d] = given;
            if (heldAlready) {
                return program.put(i, NOTHING, 0, 0, 0);
            }
            if (holder != NOWHERE) {
                return program.put(i, MOVE, d, holder, 0);
            }
            return program.put(i, kind, d, a, b);
        }

        private int lowestHolder(int wanted) {
            for (int r = 0; r < REGISTERS; r++) {
                if (held[r] == wanted) {
                    return r;
                }
            }
            return NOWHERE;
        }

        private int givenValue(int kind, int a, int b) {
            switch (kind) {
                case CONST:
                    return tableValue(CONST, a, 0);
                case MOVE:
                    return held[a];
                case SUB:
                    return tableValue(SUB, held[a], held[b]);
                case ADD:
                case MUL:
                    // One order for both, since either order gives the same value.
                    return tableValue(kind, Math.min(held[a], held[b]), Math.max(held[a], held[b]));
                default:
                    return newValue();
            }
        }

        private int newValue() {
            nextValue++;
            return nextValue - 1;
        }

        private int tableValue(int kind, int x, int y) {
            for (int e = 0; e < entries; e++) {
                if (entryKind[e] == kind && entryX[e] == x && entryY[e] == y) {
                    return entryValue[e];
                }
            }
            int added = newValue();
            if (entries < DRAFT_LIMIT) {
                entryKind[entries] = kind;
                entryX[entries] = x;
                entryY[entries] = y;
                entryValue[entries] = added;
                entries++;
            }
            return added;
        }
    }

    /** PACK. */
    private static final class Packing {
        private final boolean[] leaves = new boolean[DRAFT_LIMIT];
        /** How many instructions stay before each: the new number of the first one left at or behind it. */
        private final int[] place = new int[DRAFT_LIMIT + 1];

        int pack(Program program) {
            for (int i = 0; i < program.count; i++) {
                if (Kinds.goesToD(program.kind[i])) {
                    goFurther(program, i);
                }
            }
            choose(program);
            return takeOut(program);
        }

        private int pastNothing(Program program, int t) {
            for (int i = t; i < program.count; i++) {
                if (program.kind[i] != NOTHING) {
                    return i;
                }
            }
            return NOWHERE;
        }

        private void goFurther(Program program, int i) {
            for (int time = 0; time < DRAFT_LIMIT; time++) {
                int at = pastNothing(program, program.d[i]);
                if (at != NOWHERE && program.kind[at] == JUMP) {
                    program.d[i] = program.d[at];
                }
            }
        }

        private void choose(Program program) {
            int staying = 0;
            for (int i = 0; i < program.count; i++) {
                leaves[i] = program.kind[i] == NOTHING || goesToNext(program, i);
                place[i] = staying;
                if (!leaves[i]) {
                    staying++;
                }
            }
            place[program.count] = staying;
        }

        private boolean goesToNext(Program program, int i) {
            return program.kind[i] == JUMP
                    && pastNothing(program, program.d[i]) == pastNothing(program, i + 1);
        }

        private int takeOut(Program program) {
            int all = program.count;
            program.clear();
            for (int i = 0; i < all; i++) {
                if (!leaves[i]) {
                    int kind = program.kind[i];
                    int d = Kinds.goesToD(kind) ? place[program.d[i]] : program.d[i];
                    program.append(kind, d, program.a[i], program.b[i]);
                }
            }
            return all - program.count;
        }
    }

    /** ALLOCATE: where each register is, and the program that comes of it. */
    private static final class Allocation {
        final int[] homes = new int[REGISTERS];
        int slots = 0;
        /** For each register the set of those that interfere with it. */
        private final int[] conflicts = new int[REGISTERS];
        private final int[] starts = new int[DRAFT_LIMIT + 1];
        private final Program source = new Program(DRAFT_LIMIT);

        void findConflicts(Program program, Liveness liveness) {
            Arrays.fill(conflicts, 0);
            int atStart = liveness.before[0] | ARGUMENTS;
            for (int r = 0; r < REGISTERS; r++) {
                if ((atStart >> r & 1) == 1) {
                    addConflicts(r, atStart);
                }
            }
            for (int i = 0; i < program.count; i++) {
                if (Kinds.writesD(program.kind[i])) {
                    int moved = program.kind[i] == MOVE ? 1 << program.a[i] : 0;
                    addConflicts(program.d[i], liveness.after(program, i) & ~moved);
                }
            }
        }

        private void addConflicts(int register, int others) {
            conflicts[register] |= others & ~(1 << register);
            for (int r = 0; r < REGISTERS; r++) {
                if (r != register && (others >> r & 1) == 1) {
                    conflicts[r] |= 1 << register;
                }
            }
        }

        /** Answers how many registers found no machine register below the limit. */
        int settle(int limit) {
            slots = 0;
            homes[0] = 0;
            homes[1] = 1;
            for (int r = 2; r < REGISTERS; r++) {
                int machineRegister = lowestFree(r, limit);
                if (machineRegister == NOWHERE) {
                    homes[r] = FIRST_SLOT + slots;
                    slots++;
                } else {
                    homes[r] = machineRegister;
                }
            }
            return slots;
        }

        private int lowestFree(int register, int limit) {
            for (int m = 0; m < limit; m++) {
                if (isFree(register, m)) {
                    return m;
                }
            }
            return NOWHERE;
        }

        private boolean isFree(int register, int machineRegister) {
            for (int r = 0; r < register; r++) {
                if (homes[r] == machineRegister && (conflicts[register] >> r & 1) == 1) {
                    return false;
                }
            }
            return true;
        }

        void rewrite(Program program, int k) {
            source.copyFrom(program);
            program.clear();
            for (int i = 0; i < source.count; i++) {
                starts[i] = program.count;
                expand(program, i, k - HELPERS, k - 1);
            }
            starts[source.count] = program.count;
            for (int i = 0; i < program.count; i++) {
                if (Kinds.goesToD(program.kind[i])) {
                    program.d[i] = starts[program.d[i]];
                }
            }
        }

        private void expand(Program program, int i, int firstHelper, int secondHelper) {
            int kind = source.kind[i];
            int d = source.d[i];
            int a = source.a[i];
            int b = source.b[i];
            boolean writesD = Kinds.writesD(kind);
            boolean readsA = Kinds.readsA(kind);
            boolean readsB = Kinds.readsB(kind);
            if (readsA && isInSlot(a)) {
                program.append(RELOAD, firstHelper, homes[a] - FIRST_SLOT, 0);
            }
            if (readsB && isInSlot(b)) {
                program.append(RELOAD, secondHelper, homes[b] - FIRST_SLOT, 0);
            }
            program.append(kind,
                    writesD ? place(d, firstHelper) : d,
                    readsA ? place(a, firstHelper) : a,
                    readsB ? place(b, secondHelper) : b);
            if (writesD && isInSlot(d)) {
                program.append(SPILL, 0, firstHelper, homes[d] - FIRST_SLOT);
            }
        }

        private boolean isInSlot(int register) {
            return homes[register] >= FIRST_SLOT;
        }

        private int place(int register, int helper) {
            return isInSlot(register) ? helper : homes[register];
        }
    }

    /** Runs programs and keeps what the latest run left. */
    private static final class Machine {
        final int[] beginning = new int[CELLS];
        final int[] memory = new int[CELLS];
        final int[] trace = new int[TRACE_LIMIT];
        int traceCount = 0;
        int done = 0;
        /** GOING_ON stands here until the first run, too. */
        int ending = GOING_ON;
        int returned = 0;
        private final int[] registers = new int[REGISTERS];
        private final int[] slots = new int[REGISTERS];

        void execute(Program program, int x, int y) {
            begin(x, y);
            int at = 0;
            for (int turn = 0; turn <= STEP_LIMIT && ending == GOING_ON; turn++) {
                at = doNext(program, at);
            }
        }

        private void begin(int x, int y) {
            Arrays.fill(registers, 0);
            Arrays.fill(slots, 0);
            registers[0] = x;
            registers[1] = y;
            System.arraycopy(beginning, 0, memory, 0, CELLS);
            traceCount = 0;
            done = 0;
            ending = GOING_ON;
        }

        private int doNext(Program program, int at) {
            // No program that was taken runs off its end; the look at it only keeps the index safe.
            if (done >= STEP_LIMIT || at >= program.count) {
                ending = SPENT;
                return at;
            }
            ending = faultOf(program.kind[at], program.a[at], program.b[at]);
            if (ending != GOING_ON) {
                return at;
            }
            done++;
            return perform(program, at);
        }

        private int faultOf(int kind, int a, int b) {
            if (kind == DIV && registers[b] == 0) {
                return DIVIDED_BY_ZERO;
            }
            if ((kind == LOAD || kind == STORE) && !Kinds.isCell(registers[a])) {
                return NO_SUCH_CELL;
            }
            return kind == CALL && traceCount >= TRACE_LIMIT ? TRACE_FULL : GOING_ON;
        }

        private int perform(Program program, int at) {
            int kind = program.kind[at];
            int d = program.d[at];
            int a = program.a[at];
            switch (kind) {
                case JUMP:
                    return d;
                case ZERO:
                    return registers[a] == 0 ? d : at + 1;
                case RETURN:
                    returned = registers[a];
                    ending = RETURNED;
                    return at;
                default:
                    change(kind, d, a, program.b[at]);
                    return at + 1;
            }
        }

        private void change(int kind, int d, int a, int b) {
            switch (kind) {
                case CONST:
                    registers[d] = a;
                    break;
                case MOVE:
                    registers[d] = registers[a];
                    break;
                case ADD:
                case SUB:
                case MUL:
                case DIV:
                    registers[d] = Kinds.compute(kind, registers[a], registers[b]);
                    break;
                case LOAD:
                    registers[d] = memory[registers[a]];
                    break;
                case STORE:
                    memory[registers[a]] = registers[b];
                    break;
                case CALL:
                    registers[d] = answerCall(registers[a]);
                    break;
                case RELOAD:
                    registers[d] = slots[a];
                    break;
                case SPILL:
                    slots[b] = registers[a];
                    break;
                default:
                    break;
            }
        }

        private int answerCall(int number) {
            trace[traceCount] = number;
            traceCount++;
            return 3 * number + traceCount;
        }
    }
}
