/** Promise 4: set. */
public final class P04SetTest {
    private static final Check CHECK = new Check();
    private static final int[] VALUES = {0, 1, -1, 2, 127, 128, 129, 255, 256, -128, -129, Benches.MAX, Benches.MIN};
    private static final long[] IN_LONGS = {
        0, 1000003, -1000003, 2000006, 127000381, 128000384, 129000387, 255000765, 256000768, -128000384, -129000387,
        2147490089450941L, -2147490090450944L
    };
    private static final long[] IN_BYTES = {0, 1, -1, 2, 127, -128, -127, -1, 0, -128, 127, -1, 0};
    private static final long[] IN_FLAGS = {0, 1, 1, 0, 1, 0, 1, 1, 0, 0, 1, 1, 0};

    public static void main(String[] args) {
        for (int k = 0; k < VALUES.length; k++) {
            becomes(Benches.INTS, VALUES[k], VALUES[k]);
            becomes(Benches.LONGS, VALUES[k], IN_LONGS[k]);
            becomes(Benches.BYTES, VALUES[k], IN_BYTES[k]);
            becomes(Benches.FLAGS, VALUES[k], IN_FLAGS[k]);
        }
        refused();
        CHECK.end();
    }

    private static void becomes(int sort, int v, long want) {
        SetterBench bench = new SetterBench();
        bench.lay(2, sort, 3);
        CHECK.due("sort " + sort + ": set(2, 1, " + v + ")", bench.set(2, 1, v), 0);
        CHECK.members("sort " + sort + ", set to " + v, bench, 2, 0, want, 0);
        bench.set(2, 1, 0);
        CHECK.members("sort " + sort + ", set back", bench, 2, 0, 0, 0);
    }

    private static void refused() {
        SetterBench bench = new SetterBench();
        for (int p : Benches.NO_PLACES) {
            CHECK.due("set(" + p + ", 0, 1)", bench.set(p, 0, 1), -1);
        }
        bench.lay(1, Benches.LAMP, 0);
        for (int i : new int[] {-1, 0, 3, Benches.MIN, Benches.MAX}) {
            CHECK.due("set(0, " + i + ", 1) on nothing", bench.set(0, i, 1), 1);
            CHECK.due("set(1, " + i + ", 1) on a lamp", bench.set(1, i, 1), 2);
            for (int sort = 6; sort <= 10; sort++) {
                bench.lay(2, sort, 2);
                CHECK.due("set(2, " + i + ", 1) on sort " + sort, bench.set(2, i, 1), 2);
                CHECK.due("member(2, 0)", bench.member(2, 0), 0);
            }
        }
        for (int sort = 2; sort <= 5; sort++) {
            bench.lay(3, sort, 2);
            for (int i : new int[] {-1, 2, Benches.MIN, Benches.MAX}) {
                CHECK.due("set(3, " + i + ", 1) on sort " + sort, bench.set(3, i, 1), 3);
            }
            CHECK.members("after refusals", bench, 3, 0, 0);
        }
        bench.lay(3, Benches.INTS, 0);
        CHECK.due("set(3, 0, 1) of no members", bench.set(3, 0, 1), 3);
        CHECK.counts("set is no sweep", bench, 0, 0, 0, 0, 0, 0, 0);
        CHECK.due("back()", bench.back(), -1);
    }
}
