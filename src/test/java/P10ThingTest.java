/** Promise 10: thing. */
public final class P10ThingTest {
    private static final Check CHECK = new Check();

    public static void main(String[] args) {
        sortsAndSizes();
        leastPlace();
        noSuch();
        CHECK.end();
    }

    private static void sortsAndSizes() {
        SetterBench bench = new SetterBench();
        bench.lay(0, Benches.LAMP, 9);
        CHECK.due("a lamp: thing(0, 0)", bench.thing(0, 0), 1);
        CHECK.due("a lamp: thing(0, 1)", bench.thing(0, 1), 0);
        for (int sort = 2; sort <= 10; sort++) {
            bench.lay(7, sort, sort + 20);
            CHECK.due("thing(7, 0)", bench.thing(7, 0), sort);
            CHECK.due("thing(7, 1)", bench.thing(7, 1), sort + 20);
        }
        CHECK.due("nothing: thing(3, 0)", bench.thing(3, 0), 0);
        CHECK.due("nothing: thing(3, 1)", bench.thing(3, 1), 0);
    }

    private static void leastPlace() {
        SetterBench bench = new SetterBench();
        bench.lay(5, Benches.INTS, 2);
        bench.lay(1, Benches.INTS, 2);
        CHECK.due("alike is not the same: thing(5, 2)", bench.thing(5, 2), 5);
        bench.share(5, 7);
        CHECK.due("thing(7, 2)", bench.thing(7, 2), 5);
        bench.share(7, 2);
        for (int p : new int[] {2, 5, 7}) {
            CHECK.due("thing(" + p + ", 2)", bench.thing(p, 2), 2);
        }
        CHECK.due("thing(1, 2)", bench.thing(1, 2), 1);
        bench.lay(2, 0, 0);
        CHECK.due("thing(7, 2)", bench.thing(7, 2), 5);
        CHECK.due("nothing lies on several: thing(2, 2)", bench.thing(2, 2), 2);
        CHECK.due("thing(6, 2)", bench.thing(6, 2), 6);
        bench.lay(3, Benches.LAMP, 0);
        bench.share(3, 0);
        CHECK.due("a lamp: thing(3, 2)", bench.thing(3, 2), 0);
        bench.lay(4, Benches.LAMP, 0);
        CHECK.due("another lamp: thing(4, 2)", bench.thing(4, 2), 4);
    }

    private static void noSuch() {
        SetterBench bench = new SetterBench();
        bench.lay(0, Benches.INTS, 3);
        bench.lay(7, Benches.INTS, 3);
        for (int p : Benches.NO_PLACES) {
            for (int what = 0; what <= 2; what++) {
                CHECK.due("thing(" + p + ", " + what + ")", bench.thing(p, what), -1);
            }
        }
        for (int what : new int[] {-1, 3, Benches.MIN, Benches.MAX}) {
            CHECK.due("thing(0, " + what + ")", bench.thing(0, what), -1);
            CHECK.due("thing(1, " + what + ")", bench.thing(1, what), -1);
        }
    }
}
