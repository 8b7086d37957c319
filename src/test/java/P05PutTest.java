/** Promise 5: put. */
public final class P05PutTest {
    private static final Check CHECK = new Check();
    /** Which stones the trays of sorts 6 to 10 take: rows by tray, columns by sort of stone, gap first. */
    private static final boolean[][] TAKES = {
        {true, true, true, true, true},
        {true, false, true, true, false},
        {true, false, false, true, false},
        {true, false, false, false, true},
        {true, false, false, true, true},
    };

    public static void main(String[] args) {
        whatTraysTake();
        numbering();
        refusedBySweep();
        noSuch();
        gapInPlaceOfStone();
        keepsNothing();
        CHECK.end();
    }

    private static void whatTraysTake() {
        for (int sort = 6; sort <= 10; sort++) {
            for (int stone = 0; stone <= 4; stone++) {
                boolean taken = TAKES[sort - 6][stone];
                SetterBench bench = new SetterBench();
                bench.lay(0, sort, 2);
                CHECK.due("sort " + sort + ": put(0, 1, " + stone + ")", bench.put(0, 1, stone), taken ? 0 : 10);
                CHECK.members("sort " + sort, bench, 0, 0, taken && stone != 0 ? 10 + stone : 0);
                CHECK.counts("sort " + sort, bench,
                    stone == 0 ? 0 : 1, taken ? 1 : 0, 0, 0, 0, taken ? 0 : 1, taken ? 1 : 0);
            }
        }
    }

    private static void numbering() {
        SetterBench bench = new SetterBench();
        bench.lay(0, Benches.RUBIES, 12);
        bench.put(0, 0, Benches.RUBY);
        bench.put(0, 1, Benches.GEM);
        bench.put(0, 1, Benches.GAP);
        bench.put(5, 0, Benches.PEARL);
        bench.put(0, 12, Benches.RUBY);
        bench.put(0, 11, Benches.RUBY);
        CHECK.members("the lost ones have numbers, gaps have none", bench, 0, 13, 0, 0, 0, 0, 0, 0, 0, 0, 0, 0, 53);
        for (int i = 0; i < 8; i++) {
            bench.put(0, 2, Benches.RUBY);
        }
        CHECK.due("member(0, 2)", bench.member(0, 2), 133);
        CHECK.due("count(0)", bench.count(0), 13);
    }

    private static void refusedBySweep() {
        SetterBench bench = new SetterBench();
        bench.lay(1, Benches.LAMP, 0);
        bench.lay(2, Benches.GEMS, 3);
        bench.lay(3, Benches.GEMS, 0);
        int[] beyond = {-1, 3, Benches.MIN, Benches.MAX};
        for (int i : beyond) {
            CHECK.due("put(0, " + i + ", 2)", bench.put(0, i, Benches.GEM), 1);
            CHECK.due("put(1, " + i + ", 2)", bench.put(1, i, Benches.GEM), 2);
            CHECK.due("put(2, " + i + ", 1)", bench.put(2, i, Benches.PLAIN), 3);
            CHECK.due("put(2, " + i + ", 0)", bench.put(2, i, Benches.GAP), 3);
        }
        CHECK.due("put(3, 0, 2)", bench.put(3, 0, Benches.GEM), 3);
        CHECK.counts("refused", bench, 13, 0, 4, 4, 9, 0, 0);
        for (int sort = 2; sort <= 5; sort++) {
            bench.lay(4, sort, 2);
            CHECK.due("put(4, 0, 2) on sort " + sort, bench.put(4, 0, Benches.GEM), 2);
            CHECK.due("put(4, 9, 0) on sort " + sort, bench.put(4, 9, Benches.GAP), 2);
            CHECK.members("sort " + sort, bench, 4, 0, 0);
        }
        CHECK.counts("refused", bench, 17, 0, 4, 12, 9, 0, 0);
    }

    private static void noSuch() {
        SetterBench bench = new SetterBench();
        bench.lay(0, Benches.STONES, 1);
        for (int p : Benches.NO_PLACES) {
            CHECK.due("put(" + p + ", 0, 1)", bench.put(p, 0, 1), -1);
        }
        for (int sort : new int[] {-1, 5, 6, Benches.MIN, Benches.MAX}) {
            CHECK.due("put(0, 0, " + sort + ")", bench.put(0, 0, sort), -1);
            CHECK.due("put(1, 0, " + sort + ")", bench.put(1, 0, sort), -1);
        }
        CHECK.counts("nothing was made", bench, 0, 0, 0, 0, 0, 0, 0);
        CHECK.members("nothing was put", bench, 0, 0);
    }

    private static void gapInPlaceOfStone() {
        SetterBench bench = new SetterBench();
        Benches.layStones(bench, 0, Benches.ROUNDS, Benches.RUBY, Benches.PEARL);
        CHECK.due("put(0, 0, 1)", bench.put(0, 0, Benches.PLAIN), 10);
        CHECK.members("a refused stone leaves what lies there", bench, 0, 13, 24);
        CHECK.due("put(0, 0, 0)", bench.put(0, 0, Benches.GAP), 0);
        CHECK.members("a gap", bench, 0, 0, 24);
    }

    private static void keepsNothing() {
        SetterBench bench = new SetterBench();
        bench.lay(0, Benches.STONES, 2);
        bench.put(0, 0, Benches.GEM);
        CHECK.due("back() after a put", bench.back(), -1);
        bench.lay(1, Benches.STONES, 3);
        bench.sweep(0, 0, 1, 1, 1);
        bench.put(0, 0, Benches.PEARL);
        CHECK.due("back() after a sweep and a put", bench.back(), 3);
        CHECK.members("the swept one came back", bench, 1, 0, 0, 0);
        CHECK.members("not the put one", bench, 0, 24, 0);
    }
}
