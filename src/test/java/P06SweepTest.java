/** Promise 6: sweep, and what the terms say of a SWEEP. */
public final class P06SweepTest {
    private static final Check CHECK = new Check();

    public static void main(String[] args) {
        orderOfRefusals();
        likeAndUnlike();
        beyond();
        overItself();
        throughTwoPlaces();
        stopsAtFirst();
        stopsLate();
        gapsAreCarried();
        noSuchPlace();
        CHECK.end();
    }

    private static void orderOfRefusals() {
        SetterBench bench = new SetterBench();
        bench.lay(1, Benches.LAMP, 0);
        bench.lay(2, Benches.INTS, 3);
        bench.lay(3, Benches.LONGS, 3);
        CHECK.due("nothing, and a lamp", bench.sweep(0, -1, 1, -1, -1), 1);
        CHECK.due("a lamp, and nothing", bench.sweep(1, -1, 0, -1, -1), 1);
        CHECK.due("nothing twice", bench.sweep(0, 0, 0, 0, 0), 1);
        CHECK.due("a lamp twice", bench.sweep(1, 0, 1, 0, 0), 2);
        CHECK.due("a lamp, beyond", bench.sweep(1, 9, 2, 9, 9), 2);
        CHECK.due("to a lamp, beyond", bench.sweep(2, 9, 1, 9, 9), 2);
        CHECK.due("unlike, beyond", bench.sweep(2, -1, 3, 9, 9), 2);
        CHECK.counts("refusals", bench, 0, 0, 3, 4, 0, 0, 0);
        CHECK.due("none of them keeps: back()", bench.back(), -1);
    }

    private static void likeAndUnlike() {
        for (int one = 2; one <= 10; one++) {
            for (int other = 2; other <= 10; other++) {
                boolean like = one == other || (one >= 6 && other >= 6);
                SetterBench bench = new SetterBench();
                bench.lay(0, one, 2);
                bench.lay(1, other, 2);
                CHECK.due("sorts " + one + ", " + other, bench.sweep(0, 0, 1, 0, 2), like ? 0 : 2);
                CHECK.due("sorts " + one + ", " + other + ", none", bench.sweep(0, 0, 1, 0, 0), like ? 0 : 2);
                CHECK.due("back()", bench.back(), like ? 2 : -1);
            }
        }
    }

    private static void beyond() {
        for (int sort : new int[] {Benches.INTS, Benches.STONES}) {
            SetterBench bench = new SetterBench();
            bench.lay(0, sort, 3);
            bench.lay(1, sort, 5);
            int[][] runs = {
                {-1, 0, 1}, {0, -1, 1}, {0, 0, -1}, {0, 0, 4}, {3, 0, 1}, {1, 0, 3}, {0, 3, 3}, {0, 5, 1}, {4, 0, 0},
                {0, 6, 0}, {Benches.MAX, 0, 1}, {0, Benches.MAX, 1}, {1, 1, Benches.MAX}, {Benches.MAX, Benches.MAX, Benches.MAX},
                {Benches.MIN, 0, 0}, {0, Benches.MIN, 0}, {0, 0, Benches.MIN}, {Benches.MIN, Benches.MIN, Benches.MIN},
                {2, 2, -1}, {3, 5, -3}, {Benches.MIN, 0, Benches.MAX}, {0, Benches.MIN, Benches.MAX},
            };
            for (int[] run : runs) {
                String call = "sweep(0, " + run[0] + ", 1, " + run[1] + ", " + run[2] + ")";
                CHECK.due(call, bench.sweep(0, run[0], 1, run[1], run[2]), 3);
            }
            CHECK.counts("beyond", bench, 0, 0, 0, 0, runs.length, 0, 0);
            CHECK.due("back()", bench.back(), -1);
            CHECK.due("all of it", bench.sweep(0, 0, 1, 2, 3), 0);
            CHECK.due("none, at the ends", bench.sweep(0, 3, 1, 5, 0), 0);
            CHECK.counts("carried", bench, 0, 2, 0, 0, runs.length, 0, 3);
        }
    }

    private static void overItself() {
        SetterBench bench = new SetterBench();
        Benches.layNumbers(bench, 0, Benches.BYTES, 1, 2, 3, 4, 5);
        CHECK.due("upwards", bench.sweep(0, 0, 0, 1, 4), 0);
        CHECK.members("upwards", bench, 0, 1, 1, 2, 3, 4);
        CHECK.due("downwards", bench.sweep(0, 2, 0, 0, 3), 0);
        CHECK.members("downwards", bench, 0, 2, 3, 4, 3, 4);
        Benches.layStones(bench, 1, Benches.ROUNDS, Benches.RUBY, Benches.PEARL, Benches.RUBY);
        CHECK.due("stones", bench.sweep(1, 0, 1, 1, 2), 0);
        CHECK.members("the same stones lie twice", bench, 1, 13, 13, 24);
        CHECK.due("onto the very same", bench.sweep(1, 0, 1, 0, 3), 0);
        CHECK.members("onto the very same", bench, 1, 13, 13, 24);
    }

    private static void throughTwoPlaces() {
        SetterBench bench = new SetterBench();
        Benches.layNumbers(bench, 0, Benches.FLAGS, 1, 0, 0, 0);
        bench.share(0, 1);
        CHECK.due("sweep(0, 0, 1, 1, 3)", bench.sweep(0, 0, 1, 1, 3), 0);
        CHECK.members("as they were ahead of it", bench, 0, 1, 1, 0, 0);
        CHECK.due("back()", bench.back(), 4);
        CHECK.members("back", bench, 1, 1, 0, 0, 0);
    }

    private static void stopsAtFirst() {
        SetterBench bench = new SetterBench();
        Benches.layStones(bench, 0, Benches.STONES, Benches.PLAIN, Benches.RUBY);
        Benches.layStones(bench, 1, Benches.RUBIES, Benches.RUBY, Benches.RUBY);
        CHECK.due("the first one does not go", bench.sweep(0, 0, 1, 0, 2), 10);
        CHECK.members("nothing was carried", bench, 1, 33, 43);
        CHECK.counts("stopped", bench, 4, 4, 0, 0, 0, 1, 4);
        CHECK.due("back() all the same", bench.back(), 2);
    }

    private static void stopsLate() {
        SetterBench bench = new SetterBench();
        Benches.layStones(bench, 0, Benches.STONES, Benches.GEM, Benches.RUBY, Benches.GAP, Benches.PEARL, Benches.GEM);
        Benches.layStones(bench, 1, Benches.GEMS, Benches.GEM, Benches.GEM, Benches.GEM, Benches.GEM, Benches.GEM, Benches.GEM);
        CHECK.due("sweep(0, 0, 1, 1, 5)", bench.sweep(0, 0, 1, 1, 5), 13);
        CHECK.members("three stay, none behind the stop", bench, 1, 52, 12, 23, 0, 92, 102);
        CHECK.members("the first tray still has its own", bench, 0, 12, 23, 0, 34, 42);
        CHECK.counts("stopped", bench, 10, 11, 0, 0, 0, 1, 14);
        CHECK.due("up to the stop", bench.sweep(0, 0, 1, 0, 3), 0);
        CHECK.due("behind the stop", bench.sweep(0, 4, 1, 5, 1), 0);
        CHECK.members("then", bench, 1, 12, 23, 0, 0, 92, 42);
        bench.lay(2, Benches.STONES, 40);
        bench.put(2, 39, Benches.PLAIN);
        bench.lay(3, Benches.PEARLS, 40);
        CHECK.due("the last of forty", bench.sweep(2, 0, 3, 0, 40), 49);
        CHECK.due("count(6)", bench.count(6), 14 + 4 + 1 + 39);
        CHECK.due("count(5)", bench.count(5), 2);
    }

    private static void gapsAreCarried() {
        SetterBench bench = new SetterBench();
        bench.lay(0, Benches.PEARLS, 2);
        Benches.layStones(bench, 1, Benches.RUBIES, Benches.RUBY, Benches.RUBY, Benches.RUBY);
        CHECK.due("gaps go everywhere", bench.sweep(0, 0, 1, 1, 2), 0);
        CHECK.members("gaps", bench, 1, 13, 0, 0);
        CHECK.due("count(6)", bench.count(6), 5);
    }

    private static void noSuchPlace() {
        SetterBench bench = new SetterBench();
        bench.lay(0, Benches.INTS, 1);
        bench.lay(7, Benches.INTS, 1);
        for (int p : Benches.NO_PLACES) {
            CHECK.due("sweep(" + p + ", 0, 0, 0, 1)", bench.sweep(p, 0, 0, 0, 1), -1);
            CHECK.due("sweep(0, 0, " + p + ", 0, 1)", bench.sweep(0, 0, p, 0, 1), -1);
            CHECK.due("sweep(1, 0, " + p + ", 0, 1)", bench.sweep(1, 0, p, 0, 1), -1);
            CHECK.due("sweep(" + p + ", 0, 1, 0, 1)", bench.sweep(p, 0, 1, 0, 1), -1);
        }
        CHECK.counts("no sweeps", bench, 0, 0, 0, 0, 0, 0, 0);
        CHECK.due("sweep(0, 0, 7, 0, 1)", bench.sweep(0, 0, 7, 0, 1), 0);
    }
}
