/** Promise 1, a new object: its boundary cases. */
public final class P01NewObjectEdgesTest {
    public static void main(String[] args) {
        Sentences made = new Sentences();
        made.holds("NOTHING on all places, on the first and the last, too", P01NewObjectEdgesTest::nothingOnAll);
        made.holds("NOTHING: no call finds a THING there", P01NewObjectEdgesTest::noThingFound);
        made.holds("a new object: nothing is KEPT yet", check -> check.due("back()", new SetterBench().back(), -1));
        made.holds("a new object: nothing has been counted yet",
            check -> check.counts("new", new SetterBench(), 0, 0, 0, 0, 0, 0, 0));
        made.holds("a new object has nothing of one that was made before", P01NewObjectEdgesTest::apartFromOthers);
        made.holds("NONE = -1", check -> check.due("NONE", SetterBench.NONE, -1));
        made.end();
    }

    private static void nothingOnAll(Check check) {
        SetterBench bench = new SetterBench();
        for (int p = 0; p < 8; p++) {
            check.due("thing(" + p + ", 0)", bench.thing(p, 0), 0);
            check.due("thing(" + p + ", 1)", bench.thing(p, 1), 0);
            check.due("thing(" + p + ", 2)", bench.thing(p, 2), p);
        }
    }

    private static void noThingFound(Check check) {
        for (int p = 0; p < 8; p++) {
            SetterBench bench = new SetterBench();
            check.due("set(" + p + ", 0, 1)", bench.set(p, 0, 1), 1);
            check.due("put(" + p + ", 0, 1)", bench.put(p, 0, 1), 1);
            check.due("sweep to itself of " + p, bench.sweep(p, 0, p, 0, 0), 1);
            check.due("light(" + p + ")", bench.light(p), -1);
            check.due("member(" + p + ", 0)", bench.member(p, 0), -1);
            check.due("worth(" + p + ")", bench.worth(p), -1);
            check.due("mirror(" + p + ", " + p + ")", bench.mirror(p, p), false);
        }
    }

    private static void apartFromOthers(Check check) {
        String ahead = Shown.all(new SetterBench());
        SetterBench other = Benches.mixed();
        SetterBench fresh = new SetterBench();
        other.sweep(4, 0, 5, 0, 3);
        check.due("a new object after another one was used", Shown.all(fresh), ahead);
    }
}
