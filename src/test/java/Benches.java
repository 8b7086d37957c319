/** Names for the sorts, and benches to begin a test with. */
final class Benches {
    static final int LAMP = 1;
    static final int INTS = 2;
    static final int LONGS = 3;
    static final int BYTES = 4;
    static final int FLAGS = 5;
    static final int STONES = 6;
    static final int GEMS = 7;
    static final int RUBIES = 8;
    static final int PEARLS = 9;
    static final int ROUNDS = 10;

    static final int GAP = 0;
    static final int PLAIN = 1;
    static final int GEM = 2;
    static final int RUBY = 3;
    static final int PEARL = 4;

    static final int MIN = Integer.MIN_VALUE;
    static final int MAX = Integer.MAX_VALUE;

    /** Numbers that are no place. */
    static final int[] NO_PLACES = {-1, 8, MIN, MAX};

    private Benches() {
    }

    /**
     * Numbers just outside of low .. high and far outside of it, among them those whose lowest bits alone would be
     * inside.
     */
    static int[] outside(int low, int high) {
        return new int[] {
            low - 1, high + 1, low - 2, high + 2, low - 100, high + 100, low - 256, low + 256, low + 65536,
            MIN, MIN + 1, MAX - 1, MAX
        };
    }

    /** A bench with things of many sorts, one of them on two places, a lamp that was lit, and members that are kept. */
    static SetterBench mixed() {
        SetterBench bench = new SetterBench();
        bench.lay(1, LAMP, 0);
        bench.light(1);
        bench.light(1);
        layNumbers(bench, 2, INTS, 5, -1, 7);
        layNumbers(bench, 3, BYTES, 127, -128);
        layStones(bench, 4, STONES, PLAIN, RUBY, GAP, PEARL);
        layStones(bench, 5, GEMS, GEM, RUBY, GAP);
        bench.share(4, 6);
        layNumbers(bench, 7, INTS, 9, 8, 6, 4);
        bench.sweep(2, 0, 7, 1, 2);
        return bench;
    }

    /** Lays a tray of the sort on p, with a new stone of each of the sorts. */
    static void layStones(SetterBench bench, int p, int sort, int... stones) {
        bench.lay(p, sort, stones.length);
        for (int i = 0; i < stones.length; i++) {
            bench.put(p, i, stones[i]);
        }
    }

    /** Lays a tray of the sort on p, with each of the numbers set. */
    static void layNumbers(SetterBench bench, int p, int sort, int... numbers) {
        bench.lay(p, sort, numbers.length);
        for (int i = 0; i < numbers.length; i++) {
            bench.set(p, i, numbers[i]);
        }
    }
}
