import java.util.ArrayList;
import java.util.HashMap;
import java.util.HashSet;
import java.util.List;
import java.util.Map;
import java.util.NoSuchElementException;
import java.util.Objects;
import java.util.Set;
import java.util.TreeSet;

/**
 * The document once more, written for reading alone and otherwise than the program: sets and texts in place of
 * bits and tables, so that a slip in the one is not a slip in the other.
 */
final class Model {
    record Op(int kind, int d, int a, int b) {
        Set<Integer> reads() {
            Set<Integer> all = new TreeSet<>();
            if (List.of(2, 3, 4, 5, 6, 7, 8, 10, 11, 12).contains(kind)) {
                all.add(a);
            }
            if (List.of(3, 4, 5, 6, 8).contains(kind)) {
                all.add(b);
            }
            return all;
        }

        Integer written() {
            return List.of(1, 2, 3, 4, 5, 6, 7, 11).contains(kind) ? d : null;
        }

        boolean goes() {
            return kind == 9 || kind == 10;
        }

        Op to(int target) {
            return new Op(kind, target, a, b);
        }
    }

    static final Op NOTHING = new Op(0, 0, 0, 0);

    private List<Op> draft = new ArrayList<>();
    private List<Op> original = new ArrayList<>();
    private List<Op> present = new ArrayList<>();
    private boolean taken = false;
    private Map<Integer, Integer> homes = null;
    private final int[] beginning = new int[8];
    private int[] memory = null;
    private List<Integer> trace = new ArrayList<>();
    private int steps = 0;
    private Integer returned = null;

    int instruction(int kind, int d, int a, int b) {
        String named = switch (kind) {
            case 0 -> "";
            case 1 -> "d#";
            case 2, 7, 11 -> "da";
            case 3, 4, 5, 6 -> "dab";
            case 8 -> "ab";
            case 9 -> "t";
            case 10 -> "ta";
            case 12 -> "a";
            default -> throw new IllegalArgumentException();
        };
        for (char c : named.toCharArray()) {
            int number = c == 'a' || c == '#' ? a : c == 'b' ? b : d;
            if (c != '#' && (number < 0 || number > (c == 't' ? 23 : 7))) {
                throw new IllegalArgumentException();
            }
        }
        if (draft.size() == 24) {
            throw new IllegalStateException();
        }
        draft.add(new Op(kind,
                named.contains("d") || named.contains("t") ? d : 0,
                named.contains("a") || named.contains("#") ? a : 0,
                named.contains("b") ? b : 0));
        return draft.size() - 1;
    }

    int take() {
        List<Op> candidate = draft;
        draft = new ArrayList<>();
        int size = candidate.size();
        if (size == 0 || candidate.stream().anyMatch(op -> op.goes() && op.d() >= size)) {
            throw new IllegalArgumentException();
        }
        int last = candidate.get(size - 1).kind();
        if (last != 9 && last != 12) {
            throw new IllegalArgumentException();
        }
        original = candidate;
        present = new ArrayList<>(candidate);
        taken = true;
        homes = null;
        return size;
    }

    int pass(int pass) {
        if (pass < 0 || pass > 3) {
            throw new IllegalArgumentException();
        }
        if (!taken || homes != null) {
            throw new IllegalStateException();
        }
        List<Op> before = present;
        present = switch (pass) {
            case 0 -> fold(before);
            case 1 -> share(before);
            case 2 -> drop(before);
            default -> pack(before);
        };
        if (pass == 3) {
            return before.size() - present.size();
        }
        int others = 0;
        for (int i = 0; i < before.size(); i++) {
            others += before.get(i).equals(present.get(i)) ? 0 : 1;
        }
        return others;
    }

    private static int calculate(int kind, int x, int y) {
        return switch (kind) {
            case 3 -> x + y;
            case 4 -> x - y;
            case 5 -> x * y;
            default -> x / y;
        };
    }

    /** What is in d behind an instruction, null for anything. */
    private static Integer given(Op op, Integer[] has) {
        return switch (op.kind()) {
            case 1 -> (Integer) op.a();
            case 2 -> has[op.a()];
            case 3, 4, 5, 6 -> has[op.a()] == null || has[op.b()] == null || op.kind() == 6 && has[op.b()] == 0
                    ? null : (Integer) calculate(op.kind(), has[op.a()], has[op.b()]);
            default -> null;
        };
    }

    private static boolean sendOn(Integer[][] before, int to, Integer[] what) {
        if (before[to] == null) {
            before[to] = what.clone();
            return true;
        }
        boolean more = false;
        for (int r = 0; r < 8; r++) {
            if (before[to][r] != null && !Objects.equals(before[to][r], what[r])) {
                before[to][r] = null;
                more = true;
            }
        }
        return more;
    }

    private static List<Op> fold(List<Op> program) {
        Integer[][] before = new Integer[program.size() + 1][];
        before[0] = new Integer[] {null, null, 0, 0, 0, 0, 0, 0};
        boolean more = true;
        while (more) {
            more = false;
            for (int i = program.size() - 1; i >= 0; i--) {
                Op op = program.get(i);
                if (before[i] == null || op.kind() == 12 || op.kind() == 6 && Objects.equals(before[i][op.b()], 0)) {
                    continue;
                }
                Integer[] behind = before[i].clone();
                if (op.written() != null) {
                    behind[op.d()] = given(op, before[i]);
                }
                Integer tested = op.kind() == 10 ? before[i][op.a()] : null;
                if (op.goes() && (tested == null || tested == 0)) {
                    more |= sendOn(before, op.d(), behind);
                }
                if (op.kind() != 9 && (tested == null || tested != 0)) {
                    more |= sendOn(before, i + 1, behind);
                }
            }
        }
        List<Op> folded = new ArrayList<>();
        for (int i = 0; i < program.size(); i++) {
            folded.add(before[i] == null ? NOTHING : folded(program.get(i), before[i]));
        }
        return folded;
    }

    private static Op folded(Op op, Integer[] has) {
        if (op.kind() == 10 && has[op.a()] != null) {
            return has[op.a()] == 0 ? new Op(9, op.d(), 0, 0) : NOTHING;
        }
        Integer number = given(op, has);
        return number == null ? op : new Op(1, op.d(), number, 0);
    }

    private static int lowest(String[] values, String wanted) {
        for (int r = 0; r < 8; r++) {
            if (values[r].equals(wanted)) {
                return r;
            }
        }
        return -1;
    }

    private static String valueGiven(Op op, String[] values, int i) {
        String x = values[op.a() & 7];
        String y = values[op.b() & 7];
        boolean turned = x.compareTo(y) > 0;
        return switch (op.kind()) {
            case 1 -> "#" + op.a();
            case 2 -> x;
            case 3 -> turned ? "(" + y + "+" + x + ")" : "(" + x + "+" + y + ")";
            case 4 -> "(" + x + "-" + y + ")";
            case 5 -> turned ? "(" + y + "*" + x + ")" : "(" + x + "*" + y + ")";
            default -> "new" + i;
        };
    }

    private static List<Op> share(List<Op> program) {
        Set<Integer> begins = new HashSet<>(Set.of(0));
        for (int i = 0; i < program.size(); i++) {
            Op op = program.get(i);
            if (op.goes()) {
                begins.add(op.d());
            }
            if (op.goes() || op.kind() == 12) {
                begins.add(i + 1);
            }
        }
        List<Op> shared = new ArrayList<>();
        String[] values = new String[8];
        for (int i = 0; i < program.size(); i++) {
            for (int r = 0; r < 8 && begins.contains(i); r++) {
                values[r] = "r" + r;
            }
            Op op = program.get(i);
            Set<Integer> reads = op.reads();
            boolean readsB = List.of(3, 4, 5, 6, 8).contains(op.kind());
            op = new Op(op.kind(), op.d(),
                    reads.isEmpty() ? op.a() : lowest(values, values[op.a()]),
                    readsB ? lowest(values, values[op.b()]) : op.b());
            String given = valueGiven(op, values, i);
            Integer written = op.written();
            if (List.of(1, 3, 4, 5).contains(op.kind()) && lowest(values, given) >= 0) {
                op = new Op(2, op.d(), lowest(values, given), 0);
            }
            if (op.kind() == 2 && values[op.d()].equals(values[op.a()])) {
                op = NOTHING;
            }
            if (written != null) {
                values[written] = given;
            }
            shared.add(op);
        }
        return shared;
    }

    private static Set<Integer> followers(List<Op> program, int i) {
        Set<Integer> all = new TreeSet<>();
        Op op = program.get(i);
        if (op.goes()) {
            all.add(op.d());
        }
        if (op.kind() != 9 && op.kind() != 12 && i + 1 < program.size()) {
            all.add(i + 1);
        }
        return all;
    }

    /** Is there a way from instruction i to a read of the register with no write before it? */
    private static boolean live(List<Op> program, int i, int register, Set<Integer> seen) {
        if (!seen.add(i)) {
            return false;
        }
        Op op = program.get(i);
        if (op.reads().contains(register)) {
            return true;
        }
        return !Objects.equals(op.written(), register) && liveBehind(program, i, register, seen);
    }

    private static boolean liveBehind(List<Op> program, int i, int register, Set<Integer> seen) {
        return followers(program, i).stream().anyMatch(next -> live(program, next, register, seen));
    }

    private static List<Op> drop(List<Op> program) {
        List<Op> now = new ArrayList<>(program);
        while (true) {
            List<Op> next = new ArrayList<>(now);
            for (int i = 0; i < now.size(); i++) {
                int kind = now.get(i).kind();
                if (kind >= 1 && kind <= 5 && !liveBehind(now, i, now.get(i).d(), new HashSet<>())) {
                    next.set(i, NOTHING);
                }
            }
            if (next.equals(now)) {
                return now;
            }
            now = next;
        }
    }

    private static int past(List<Op> program, int t) {
        int at = t;
        while (at < program.size() && program.get(at).kind() == 0) {
            at++;
        }
        return at;
    }

    private static List<Op> pack(List<Op> program) {
        List<Op> now = new ArrayList<>(program);
        for (int i = 0; i < now.size(); i++) {
            for (int time = 0; time < 24 && now.get(i).goes(); time++) {
                Op there = now.get(past(now, now.get(i).d()));
                if (there.kind() == 9) {
                    now.set(i, now.get(i).to(there.d()));
                }
            }
        }
        List<Integer> left = new ArrayList<>();
        for (int i = 0; i < now.size(); i++) {
            Op op = now.get(i);
            if (op.kind() != 0 && !(op.kind() == 9 && past(now, op.d()) == past(now, i + 1))) {
                left.add(i);
            }
        }
        List<Op> packed = new ArrayList<>();
        for (int i : left) {
            Op op = now.get(i);
            int target = op.d();
            packed.add(op.goes() ? op.to((int) left.stream().filter(at -> at < target).count()) : op);
        }
        return packed;
    }

    private boolean interfere(int p, int q) {
        if (liveAtStart(p) && liveAtStart(q)) {
            return true;
        }
        for (int i = 0; i < present.size(); i++) {
            if (clash(i, p, q) || clash(i, q, p)) {
                return true;
            }
        }
        return false;
    }

    private boolean liveAtStart(int register) {
        return register < 2 || live(present, 0, register, new HashSet<>());
    }

    private boolean clash(int i, int written, int other) {
        Op op = present.get(i);
        return Objects.equals(op.written(), written) && !(op.kind() == 2 && op.a() == other)
                && liveBehind(present, i, other, new HashSet<>());
    }

    private Map<Integer, Integer> settle(int k, boolean intoSlots) {
        Map<Integer, Integer> found = new HashMap<>(Map.of(0, 0, 1, 1));
        int slot = 8;
        for (int r = 2; r < 8; r++) {
            int register = r;
            int m = 0;
            while (m < k && has(found, m, register)) {
                m++;
            }
            if (m < k) {
                found.put(r, m);
            } else if (intoSlots) {
                found.put(r, slot++);
            } else {
                return null;
            }
        }
        return found;
    }

    private boolean has(Map<Integer, Integer> found, int m, int register) {
        return found.entrySet().stream().anyMatch(e -> e.getValue() == m && interfere(e.getKey(), register));
    }

    int allocate(int k) {
        if (k < 2 || k > 8) {
            throw new IllegalArgumentException();
        }
        if (!taken || homes != null) {
            throw new IllegalStateException();
        }
        Map<Integer, Integer> found = settle(k, false);
        if (found == null && k < 4) {
            throw new IllegalStateException();
        }
        homes = found == null ? settle(k - 2, true) : found;
        List<Op> made = new ArrayList<>();
        List<Integer> begins = new ArrayList<>();
        for (Op op : present) {
            begins.add(made.size());
            made.addAll(become(op, k));
        }
        made.replaceAll(op -> op.goes() ? op.to(begins.get(op.d())) : op);
        present = made;
        return (int) homes.values().stream().filter(h -> h >= 8).count();
    }

    private List<Op> become(Op op, int k) {
        List<Op> all = new ArrayList<>();
        boolean readsA = !op.reads().isEmpty();
        boolean readsB = List.of(3, 4, 5, 6, 8).contains(op.kind());
        int a = readsA ? homes.get(op.a()) : op.a();
        int b = readsB ? homes.get(op.b()) : op.b();
        int d = op.written() != null ? homes.get(op.d()) : op.d();
        if (readsA && a >= 8) {
            all.add(new Op(13, k - 2, a - 8, 0));
            a = k - 2;
        }
        if (readsB && b >= 8) {
            all.add(new Op(13, k - 1, b - 8, 0));
            b = k - 1;
        }
        boolean spills = op.written() != null && d >= 8;
        all.add(new Op(op.kind(), spills ? k - 2 : d, a, b));
        if (spills) {
            all.add(new Op(14, 0, k - 2, d - 8));
        }
        return all;
    }

    int home(int register) {
        if (register < 0 || register > 7) {
            throw new IllegalArgumentException();
        }
        if (homes == null) {
            throw new NoSuchElementException();
        }
        return homes.get(register);
    }

    void restore() {
        if (!taken) {
            throw new IllegalStateException();
        }
        present = new ArrayList<>(original);
        homes = null;
    }

    int length(boolean ofPresent) {
        return (ofPresent ? present : original).size();
    }

    int look(boolean ofPresent, int i, int what) {
        if (what < 0 || what > 3) {
            throw new IllegalArgumentException();
        }
        if (i < 0 || i >= length(ofPresent)) {
            throw new NoSuchElementException();
        }
        Op op = (ofPresent ? present : original).get(i);
        return new int[] {op.kind(), op.d(), op.a(), op.b()}[what];
    }

    void poke(int cell, int value) {
        if (cell < 0 || cell > 7) {
            throw new IllegalArgumentException();
        }
        beginning[cell] = value;
    }

    int run(boolean ofPresent, int x, int y) {
        if (!taken) {
            throw new IllegalStateException();
        }
        List<Op> program = ofPresent ? present : original;
        int[] r = {x, y, 0, 0, 0, 0, 0, 0};
        int[] slots = new int[8];
        memory = beginning.clone();
        trace = new ArrayList<>();
        steps = 0;
        returned = null;
        int at = 0;
        while (true) {
            if (steps == 400) {
                return 3;
            }
            Op op = program.get(at);
            int a = op.a();
            int b = op.b();
            if (op.kind() == 6 && r[b] == 0) {
                return 1;
            }
            if ((op.kind() == 7 || op.kind() == 8) && (r[a] < 0 || r[a] > 7)) {
                return 2;
            }
            if (op.kind() == 11 && trace.size() == 16) {
                return 4;
            }
            steps++;
            at++;
            switch (op.kind()) {
                case 1 -> r[op.d()] = a;
                case 2 -> r[op.d()] = r[a];
                case 3, 4, 5, 6 -> r[op.d()] = calculate(op.kind(), r[a], r[b]);
                case 7 -> r[op.d()] = memory[r[a]];
                case 8 -> memory[r[a]] = r[b];
                case 9 -> at = op.d();
                case 10 -> at = r[a] == 0 ? op.d() : at;
                case 11 -> {
                    trace.add(r[a]);
                    r[op.d()] = 3 * r[a] + trace.size();
                }
                case 12 -> {
                    returned = r[a];
                    return 0;
                }
                case 13 -> r[op.d()] = slots[a];
                case 14 -> slots[b] = r[a];
                default -> { }
            }
        }
    }

    int value() {
        if (returned == null) {
            throw new NoSuchElementException();
        }
        return returned;
    }

    int cell(int cell) {
        if (cell < 0 || cell > 7) {
            throw new IllegalArgumentException();
        }
        return (memory == null ? beginning : memory)[cell];
    }

    int traced(int k) {
        if (k < 0 || k >= trace.size()) {
            throw new NoSuchElementException();
        }
        return trace.get(k);
    }

    int steps() {
        return steps;
    }
}
