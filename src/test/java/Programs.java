/** Makes programs to try, the same ones each time: a plain row of numbers, no random source. */
final class Programs {
    private static final int[] EDGES = {
        Integer.MIN_VALUE, Integer.MIN_VALUE + 1, -256, -8, 7, 8, 23, 24, 256, 1 << 16, Integer.MAX_VALUE};

    private long seed;

    Programs(int number) {
        seed = number * 7919L + 17;
    }

    int pick(int bound) {
        seed = seed * 6364136223846793005L + 1442695040888963407L;
        return (int) ((seed >>> 33) % bound);
    }

    /** Mostly the small numbers that cells, counters and ways depend on, now and then one from an edge. */
    int number() {
        return pick(12) == 0 ? EDGES[pick(EDGES.length)] : pick(5) - 1;
    }

    /** Mostly within 0 .. bound - 1 or one step outside, now and then far outside. */
    private int around(int bound) {
        return pick(12) == 0 ? EDGES[pick(EDGES.length)] : pick(bound + 2) - 1;
    }

    /** Instructions that make a whole program, with numbers that their kinds don't name, too. */
    int[][] whole() {
        int size = 1 + pick(24);
        int registers = 2 + pick(7);
        int jumps = pick(3);
        int[][] all = new int[size][];
        for (int i = 0; i < size - 1; i++) {
            all[i] = inner(size, registers, jumps);
        }
        boolean loops = pick(4) == 0;
        all[size - 1] = loops
                ? new int[] {9, pick(size), pick(9), pick(9)}
                : new int[] {12, pick(30), pick(registers), pick(30)};
        return all;
    }

    private int[] inner(int size, int registers, int jumps) {
        int kind = pick(4) == 0 ? 1 + pick(5) : pick(13);
        if (kind == 12 && pick(2) == 0 || (kind == 9 || kind == 10) && pick(3) > jumps) {
            kind = pick(4);
        }
        int d = kind == 9 || kind == 10 ? pick(size) : pick(registers);
        int a = kind == 1 ? number() : pick(registers);
        return new int[] {kind, d, a, pick(registers)};
    }

    /** Instructions that are often refused, and more of them than a draft takes. */
    int[][] wild() {
        int[][] all = new int[1 + pick(27)][];
        for (int i = 0; i < all.length; i++) {
            all[i] = new int[] {around(14), around(24), around(8), around(8)};
        }
        return all;
    }
}
