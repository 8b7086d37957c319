import java.util.Arrays;

/** Promise 12: mirror. */
public final class P12MirrorTest {
    private static final Check CHECK = new Check();

    public static void main(String[] args) {
        mirror(true, stones(), stones());
        mirror(true, stones(1), stones(1));
        mirror(false, stones(1), stones(2));
        mirror(true, stones(1, 2, 3), stones(3, 2, 1));
        mirror(false, stones(1, 2, 3), stones(1, 2, 3));
        mirror(true, stones(4, 0, 0, 3), stones(3, 0, 0, 4));
        mirror(false, stones(4, 0, 2, 3), stones(3, 0, 2, 4));
        mirror(false, stones(0, 2), stones(2));
        mirror(false, stones(2, 0), stones(2));
        mirror(false, stones(0), stones());
        mirror(false, stones(1, 2, 3), stones(3, 2, 2));
        mirror(false, stones(1, 2, 3), stones(2, 2, 1));
        mirror(false, stones(3, 4), stones(3, 4));
        mirror(false, stones(1, 0), stones(0, 2));
        withItself();
        unlikeTrays();
        noStones();
        CHECK.end();
    }

    private static int[] stones(int... sorts) {
        return sorts;
    }

    private static void mirror(boolean want, int[] one, int[] other) {
        SetterBench bench = new SetterBench();
        Benches.layStones(bench, 0, Benches.STONES, one);
        Benches.layStones(bench, 7, Benches.STONES, other);
        String both = Arrays.toString(one) + ", " + Arrays.toString(other);
        CHECK.due("mirror of " + both, bench.mirror(0, 7), want);
        CHECK.due("mirror the other way of " + both, bench.mirror(7, 0), want);
    }

    private static void withItself() {
        SetterBench bench = new SetterBench();
        Benches.layStones(bench, 0, Benches.STONES, 3, 1, 3);
        bench.share(0, 1);
        CHECK.due("mirror(0, 0)", bench.mirror(0, 0), true);
        CHECK.due("mirror(0, 1)", bench.mirror(0, 1), true);
        bench.put(0, 2, Benches.PEARL);
        CHECK.due("mirror(0, 0)", bench.mirror(0, 0), false);
        CHECK.due("mirror(1, 0)", bench.mirror(1, 0), false);
    }

    private static void unlikeTrays() {
        SetterBench bench = new SetterBench();
        Benches.layStones(bench, 0, Benches.GEMS, 3, 0, 3);
        Benches.layStones(bench, 1, Benches.ROUNDS, 3, 0, 3);
        CHECK.due("the trays' own sorts do not matter", bench.mirror(0, 1), true);
        bench.lay(2, Benches.PEARLS, 2);
        bench.lay(3, Benches.RUBIES, 2);
        CHECK.due("gaps alone", bench.mirror(2, 3), true);
    }

    private static void noStones() {
        SetterBench bench = new SetterBench();
        Benches.layStones(bench, 0, Benches.STONES);
        CHECK.due("nothing", bench.mirror(0, 1), false);
        CHECK.due("nothing", bench.mirror(1, 0), false);
        CHECK.due("nothing twice", bench.mirror(1, 1), false);
        bench.lay(1, Benches.LAMP, 0);
        CHECK.due("a lamp", bench.mirror(0, 1), false);
        CHECK.due("a lamp", bench.mirror(1, 0), false);
        CHECK.due("a lamp twice", bench.mirror(1, 1), false);
        for (int sort = 2; sort <= 5; sort++) {
            bench.lay(1, sort, 0);
            CHECK.due("sort " + sort, bench.mirror(0, 1), false);
            CHECK.due("sort " + sort, bench.mirror(1, 0), false);
            CHECK.due("sort " + sort + " twice", bench.mirror(1, 1), false);
        }
        for (int p : Benches.NO_PLACES) {
            CHECK.due("mirror(0, " + p + ")", bench.mirror(0, p), false);
            CHECK.due("mirror(" + p + ", 0)", bench.mirror(p, 0), false);
            CHECK.due("mirror(" + p + ", " + p + ")", bench.mirror(p, p), false);
        }
    }
}
