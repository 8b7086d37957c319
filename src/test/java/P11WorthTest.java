/** Promise 11: worth. */
public final class P11WorthTest {
    private static final Check CHECK = new Check();

    public static void main(String[] args) {
        worth(0);
        worth(0, 0, 0, 0);
        worth(1, 1);
        worth(4, 2);
        worth(20, 3);
        worth(15, 4);
        worth(2, 1, 1);
        worth(8, 2, 2);
        worth(45, 3, 3);
        worth(35, 4, 4);
        worth(35, 3, 4);
        worth(35, 4, 3);
        worth(40, 3, 0, 3);
        worth(44, 3, 2, 3);
        worth(70, 3, 3, 3);
        worth(95, 3, 3, 3, 3);
        worth(80, 3, 3, 4, 4);
        worth(20 + 20 + 5 + 1 + 15 + 15 + 5 + 4, 0, 3, 3, 1, 4, 4, 2, 0);
        namedTrays();
        afterCarrying();
        noStones();
        CHECK.end();
    }

    private static void worth(int want, int... stones) {
        SetterBench bench = new SetterBench();
        Benches.layStones(bench, 4, Benches.STONES, stones);
        CHECK.due("worth of " + java.util.Arrays.toString(stones), bench.worth(4), want);
    }

    private static void namedTrays() {
        SetterBench bench = new SetterBench();
        Benches.layStones(bench, 0, Benches.GEMS, Benches.GEM, Benches.RUBY, Benches.RUBY);
        CHECK.due("gems", bench.worth(0), 49);
        Benches.layStones(bench, 0, Benches.RUBIES, Benches.RUBY, Benches.RUBY, Benches.GAP);
        CHECK.due("rubies", bench.worth(0), 45);
        Benches.layStones(bench, 0, Benches.PEARLS, Benches.PEARL, Benches.PEARL);
        CHECK.due("pearls", bench.worth(0), 35);
        Benches.layStones(bench, 0, Benches.ROUNDS, Benches.PEARL, Benches.RUBY, Benches.RUBY);
        CHECK.due("round ones", bench.worth(0), 60);
        bench.lay(0, Benches.RUBIES, 40);
        for (int i = 0; i < 40; i++) {
            bench.put(0, i, Benches.RUBY);
        }
        CHECK.due("forty rubies", bench.worth(0), 40 * 20 + 39 * 5);
    }

    private static void afterCarrying() {
        SetterBench bench = new SetterBench();
        Benches.layStones(bench, 0, Benches.STONES, Benches.PEARL, Benches.GAP, Benches.GAP);
        bench.sweep(0, 0, 0, 1, 1);
        CHECK.due("a stone that lies twice", bench.worth(0), 35);
        bench.back();
        CHECK.due("taken back", bench.worth(0), 15);
    }

    private static void noStones() {
        SetterBench bench = new SetterBench();
        CHECK.due("nothing", bench.worth(0), -1);
        bench.lay(0, Benches.LAMP, 0);
        CHECK.due("a lamp", bench.worth(0), -1);
        for (int sort = 2; sort <= 5; sort++) {
            bench.lay(0, sort, 2);
            CHECK.due("sort " + sort, bench.worth(0), -1);
        }
        for (int p : Benches.NO_PLACES) {
            CHECK.due("worth(" + p + ")", bench.worth(p), -1);
        }
    }
}
