/** Promise 8: light. */
public final class P08LightTest {
    private static final Check CHECK = new Check();

    public static void main(String[] args) {
        SetterBench bench = new SetterBench();
        bench.lay(0, Benches.LAMP, 0);
        bench.lay(7, Benches.LAMP, 40);
        for (int times = 1; times <= 20; times++) {
            CHECK.due("light(0)", bench.light(0), times);
        }
        CHECK.due("the other lamp: light(7)", bench.light(7), 1);
        bench.share(0, 3);
        bench.lay(0, 0, 0);
        CHECK.due("light(3)", bench.light(3), 21);
        CHECK.due("nothing: light(0)", bench.light(0), -1);
        for (int sort = 2; sort <= 10; sort++) {
            bench.lay(1, sort, 1);
            CHECK.due("sort " + sort + ": light(1)", bench.light(1), -1);
        }
        for (int p : Benches.NO_PLACES) {
            CHECK.due("light(" + p + ")", bench.light(p), -1);
        }
        CHECK.due("light(3)", bench.light(3), 22);
        CHECK.end();
    }
}
