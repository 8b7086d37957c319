/** Promise 1: a new object has NOTHING on all places, and has done nothing yet. */
public final class P01NewObjectTest {
    public static void main(String[] args) {
        Check check = new Check();
        SetterBench bench = new SetterBench();
        check.due("NONE", SetterBench.NONE, -1);
        for (int p = 0; p < 8; p++) {
            check.due("thing(" + p + ", 0)", bench.thing(p, 0), 0);
            check.due("thing(" + p + ", 1)", bench.thing(p, 1), 0);
            check.due("thing(" + p + ", 2)", bench.thing(p, 2), p);
            check.due("member(" + p + ", 0)", bench.member(p, 0), -1);
            check.due("worth(" + p + ")", bench.worth(p), -1);
            check.due("light(" + p + ")", bench.light(p), -1);
            check.due("mirror(" + p + ", 0)", bench.mirror(p, 0), false);
        }
        check.due("back()", bench.back(), -1);
        check.counts("new", bench, 0, 0, 0, 0, 0, 0, 0);
        benchesAreApart(check);
        check.end();
    }

    private static void benchesAreApart(Check check) {
        SetterBench one = new SetterBench();
        SetterBench other = new SetterBench();
        Benches.layStones(one, 0, Benches.STONES, Benches.RUBY);
        one.sweep(0, 0, 0, 0, 1);
        check.due("other thing(0, 0)", other.thing(0, 0), 0);
        check.due("other back()", other.back(), -1);
        check.counts("other", other, 0, 0, 0, 0, 0, 0, 0);
    }
}
