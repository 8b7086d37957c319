/** Promise 3: share. */
public final class P03ShareTest {
    private static final Check CHECK = new Check();

    public static void main(String[] args) {
        sameThing();
        nothingToo();
        refused();
        CHECK.end();
    }

    private static void sameThing() {
        SetterBench bench = new SetterBench();
        Benches.layNumbers(bench, 6, Benches.INTS, 1, 2);
        CHECK.due("share(6, 2)", bench.share(6, 2), true);
        bench.set(2, 0, 9);
        CHECK.members("set through the other place", bench, 6, 9, 2);
        CHECK.due("share(2, 2)", bench.share(2, 2), true);
        CHECK.members("shared with itself", bench, 2, 9, 2);
        bench.lay(0, Benches.LAMP, 0);
        bench.share(0, 7);
        CHECK.due("light(0)", bench.light(0), 1);
        CHECK.due("light(7)", bench.light(7), 2);
        CHECK.due("light(0)", bench.light(0), 3);
    }

    private static void nothingToo() {
        SetterBench bench = new SetterBench();
        Benches.layNumbers(bench, 1, Benches.INTS, 4);
        CHECK.due("share(0, 1)", bench.share(0, 1), true);
        CHECK.due("thing(1, 0)", bench.thing(1, 0), 0);
        CHECK.due("share(3, 4)", bench.share(3, 4), true);
        CHECK.due("thing(4, 2)", bench.thing(4, 2), 4);
    }

    private static void refused() {
        SetterBench bench = new SetterBench();
        Benches.layNumbers(bench, 0, Benches.INTS, 4);
        Benches.layNumbers(bench, 7, Benches.INTS, 5);
        for (int p : Benches.NO_PLACES) {
            CHECK.due("share(" + p + ", 0)", bench.share(p, 0), false);
            CHECK.due("share(7, " + p + ")", bench.share(7, p), false);
            CHECK.due("share(" + p + ", " + p + ")", bench.share(p, p), false);
        }
        CHECK.members("after refusals", bench, 0, 4);
        CHECK.members("after refusals", bench, 7, 5);
    }
}
