/** Promise 3, share: its boundary cases. */
public final class P03ShareEdgesTest {
    public static void main(String[] args) {
        Sentences share = new Sentences();
        share.holds("On place q lies what lies on place p: from each place to each", P03ShareEdgesTest::eachPair);
        share.holds("(NOTHING, too): in place of a THING", P03ShareEdgesTest::nothingToo);
        share.holds("(NOTHING, too): where NOTHING lies", P03ShareEdgesTest::nothingToNothing);
        share.holds("what lies on place p: with itself it stays", P03ShareEdgesTest::withItself);
        share.holds("what lies on place p: the same LAMP", P03ShareEdgesTest::sameLamp);
        share.holds("what lies on place p: the same TRAY, of no MEMBERS, too", P03ShareEdgesTest::sameTray);
        share.holds("False, nothing being done: p is no such place", P03ShareEdgesTest::noSuchFirst);
        share.holds("False, nothing being done: q is no such place", P03ShareEdgesTest::noSuchSecond);
        share.holds("False, nothing being done: neither is a place", P03ShareEdgesTest::neither);
        share.end();
    }

    private static void eachPair(Check check) {
        for (int p = 0; p < 8; p++) {
            for (int q = 0; q < 8; q++) {
                SetterBench bench = new SetterBench();
                Benches.layNumbers(bench, q, Benches.BYTES, 3);
                Benches.layNumbers(bench, p, Benches.INTS, 1, 2);
                check.due("share(" + p + ", " + q + ")", bench.share(p, q), true);
                check.members("on " + q, bench, q, 1, 2);
                check.members("on " + p, bench, p, 1, 2);
                check.due("thing(" + q + ", 2)", bench.thing(q, 2), Math.min(p, q));
            }
        }
    }

    private static void nothingToo(Check check) {
        for (int sort = 1; sort <= 10; sort++) {
            SetterBench bench = new SetterBench();
            bench.lay(7, sort, 2);
            check.due("share(0, 7)", bench.share(0, 7), true);
            check.due("thing(7, 0)", bench.thing(7, 0), 0);
            check.due("member(7, 0)", bench.member(7, 0), -1);
        }
    }

    private static void nothingToNothing(Check check) {
        SetterBench bench = new SetterBench();
        check.due("share(0, 7)", bench.share(0, 7), true);
        check.due("thing(7, 0)", bench.thing(7, 0), 0);
        check.due("thing(7, 2)", bench.thing(7, 2), 7);
    }

    private static void withItself(Check check) {
        for (int p = 0; p < 8; p++) {
            int place = p;
            Refusals.unchanged(check, "share(" + p + ", " + p + ")", 1, bench -> bench.share(place, place) ? 1 : 0);
        }
    }

    private static void sameLamp(Check check) {
        SetterBench bench = new SetterBench();
        bench.lay(7, Benches.LAMP, 0);
        bench.share(7, 0);
        check.due("light(0)", bench.light(0), 1);
        check.due("light(7)", bench.light(7), 2);
        check.due("light(0)", bench.light(0), 3);
    }

    private static void sameTray(Check check) {
        for (int n : new int[] {0, 1, 40}) {
            SetterBench bench = new SetterBench();
            bench.lay(7, Benches.INTS, n);
            bench.share(7, 0);
            check.due("thing(0, 1)", bench.thing(0, 1), n);
            check.due("thing(7, 2)", bench.thing(7, 2), 0);
            check.due("set(0, " + (n - 1) + ", 6)", bench.set(0, n - 1, 6), n == 0 ? 3 : 0);
            check.due("member(7, " + (n - 1) + ")", bench.member(7, n - 1), n == 0 ? -1 : 6);
        }
    }

    private static void noSuchFirst(Check check) {
        for (int p : Benches.outside(0, 7)) {
            for (int q : new int[] {0, 4, 7}) {
                Refusals.unchanged(check, "share(" + p + ", " + q + ")", 0, bench -> bench.share(p, q) ? 1 : 0);
            }
        }
    }

    private static void noSuchSecond(Check check) {
        for (int q : Benches.outside(0, 7)) {
            for (int p : new int[] {0, 4, 7}) {
                Refusals.unchanged(check, "share(" + p + ", " + q + ")", 0, bench -> bench.share(p, q) ? 1 : 0);
            }
        }
    }

    private static void neither(Check check) {
        for (int p : Benches.outside(0, 7)) {
            for (int q : Benches.outside(0, 7)) {
                check.due("share(" + p + ", " + q + ")", new SetterBench().share(p, q), false);
            }
        }
    }
}
