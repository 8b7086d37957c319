/** Promise 13: count. */
public final class P13CountTest {
    private static final Check CHECK = new Check();

    public static void main(String[] args) {
        sweepsAndPuts();
        noSuch();
        CHECK.end();
    }

    private static void sweepsAndPuts() {
        SetterBench bench = new SetterBench();
        bench.lay(0, Benches.STONES, 3);
        bench.lay(1, Benches.GEMS, 2);
        bench.lay(2, Benches.INTS, 2);
        CHECK.counts("laying counts nothing", bench, 0, 0, 0, 0, 0, 0, 0);
        bench.put(0, 0, Benches.GEM);
        CHECK.counts("a put", bench, 1, 1, 0, 0, 0, 0, 1);
        bench.put(0, 1, Benches.GAP);
        CHECK.counts("a gap is carried, not made", bench, 1, 2, 0, 0, 0, 0, 2);
        bench.put(0, 2, Benches.PEARL);
        bench.put(7, 0, Benches.PEARL);
        CHECK.counts("empty", bench, 3, 3, 1, 0, 0, 0, 3);
        bench.put(2, 0, Benches.PEARL);
        CHECK.counts("unlike", bench, 4, 3, 1, 1, 0, 0, 3);
        bench.put(0, 3, Benches.PEARL);
        CHECK.counts("beyond", bench, 5, 3, 1, 1, 1, 0, 3);
        bench.put(1, 0, Benches.PEARL);
        CHECK.counts("stopped", bench, 6, 3, 1, 1, 1, 1, 3);
        bench.sweep(0, 1, 1, 0, 2);
        CHECK.counts("stopped after one", bench, 6, 3, 1, 1, 1, 2, 4);
        bench.sweep(0, 0, 1, 0, 2);
        CHECK.counts("done", bench, 6, 4, 1, 1, 1, 2, 6);
        bench.back();
        CHECK.counts("back() carries nothing", bench, 6, 4, 1, 1, 1, 2, 6);
        bench.sweep(0, 0, 1, 0, 0);
        CHECK.counts("none carried", bench, 6, 5, 1, 1, 1, 2, 6);
        bench.sweep(7, 0, 1, 0, 0);
        bench.sweep(2, 0, 1, 0, 0);
        bench.sweep(0, 0, 1, 0, 3);
        CHECK.counts("refused", bench, 6, 5, 2, 2, 2, 2, 6);
        bench.sweep(8, 0, 1, 0, 0);
        bench.put(8, 0, 1);
        bench.put(0, 0, 5);
        bench.set(2, 0, 1);
        CHECK.counts("no sweeps at all", bench, 6, 5, 2, 2, 2, 2, 6);
    }

    private static void noSuch() {
        SetterBench bench = new SetterBench();
        for (int what : new int[] {-1, 7, Benches.MIN, Benches.MAX}) {
            CHECK.due("count(" + what + ")", bench.count(what), -1);
        }
    }
}
