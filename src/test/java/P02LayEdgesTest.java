/** Promise 2, lay: its boundary cases. */
public final class P02LayEdgesTest {
    public static void main(String[] args) {
        Sentences lay = new Sentences();
        lay.holds("comes to lie on place p: on the first and the last place", P02LayEdgesTest::firstAndLastPlace);
        lay.holds("comes to lie on place p, and on no other one", P02LayEdgesTest::onlyThere);
        lay.holds("False, nothing being done: no such place", P02LayEdgesTest::noSuchPlace);
        lay.holds("False, nothing being done: no such sort", P02LayEdgesTest::noSuchSort);
        lay.holds("False, nothing being done: n of a TRAY not 0 .. 40", P02LayEdgesTest::noSuchSize);
        lay.holds("n of a TRAY 0 .. 40: each of them", P02LayEdgesTest::eachSize);
        lay.holds("n of a TRAY: n of a LAMP may be any", P02LayEdgesTest::anySizeOfLamp);
        lay.holds("n of a TRAY: n of NOTHING may be any", P02LayEdgesTest::anySizeOfNothing);
        lay.holds("sort 0 NOTHING, 1 a LAMP, 2 .. 10 a TRAY: the least and the greatest", P02LayEdgesTest::eachSort);
        lay.holds("sort 0 NOTHING: in place of a THING", P02LayEdgesTest::nothingInPlace);
        lay.holds("A new THING: not the one that lay there", P02LayEdgesTest::newInPlaceOfOld);
        lay.holds("A new THING: a LAMP that was never lit", P02LayEdgesTest::newLamp);
        lay.end();
    }

    private static void firstAndLastPlace(Check check) {
        for (int sort = 0; sort <= 10; sort++) {
            for (int p : new int[] {0, 7}) {
                SetterBench bench = new SetterBench();
                check.due("lay(" + p + ", " + sort + ", 4)", bench.lay(p, sort, 4), true);
                check.due("thing(" + p + ", 0)", bench.thing(p, 0), sort);
                check.due("thing(" + p + ", 1)", bench.thing(p, 1), sort >= 2 ? 4 : 0);
            }
        }
    }

    private static void onlyThere(Check check) {
        for (int p = 0; p < 8; p++) {
            SetterBench bench = new SetterBench();
            bench.lay(p, Benches.GEMS, 2);
            for (int q = 0; q < 8; q++) {
                check.due("lay on " + p + ": thing(" + q + ", 0)", bench.thing(q, 0), q == p ? 7 : 0);
            }
        }
    }

    private static void noSuchPlace(Check check) {
        for (int p : Benches.outside(0, 7)) {
            for (int sort : new int[] {0, 1, 2, 10, 11}) {
                String call = "lay(" + p + ", " + sort + ", 1)";
                Refusals.unchanged(check, call, 0, bench -> bench.lay(p, sort, 1) ? 1 : 0);
            }
        }
    }

    private static void noSuchSort(Check check) {
        for (int sort : Benches.outside(0, 10)) {
            for (int p : new int[] {0, 1, 2, 7}) {
                String call = "lay(" + p + ", " + sort + ", 1)";
                Refusals.unchanged(check, call, 0, bench -> bench.lay(p, sort, 1) ? 1 : 0);
            }
        }
    }

    private static void noSuchSize(Check check) {
        for (int n : Benches.outside(0, 40)) {
            for (int sort = 2; sort <= 10; sort++) {
                int tray = sort;
                String call = "lay(2, " + sort + ", " + n + ")";
                Refusals.unchanged(check, call, 0, bench -> bench.lay(2, tray, n) ? 1 : 0);
            }
        }
    }

    private static void eachSize(Check check) {
        for (int sort = 2; sort <= 10; sort++) {
            for (int n = 0; n <= 40; n++) {
                SetterBench bench = new SetterBench();
                check.due("lay(5, " + sort + ", " + n + ")", bench.lay(5, sort, n), true);
                check.due("thing(5, 1)", bench.thing(5, 1), n);
                check.due("the last one: member(5, " + (n - 1) + ")", bench.member(5, n - 1), n == 0 ? -1 : 0);
                check.due("behind it: member(5, " + n + ")", bench.member(5, n), -1);
            }
        }
    }

    private static void anySizeOfLamp(Check check) {
        for (int n : Benches.outside(0, 40)) {
            SetterBench bench = new SetterBench();
            check.due("lay(0, 1, " + n + ")", bench.lay(0, Benches.LAMP, n), true);
            check.due("thing(0, 0)", bench.thing(0, 0), 1);
            check.due("thing(0, 1)", bench.thing(0, 1), 0);
        }
    }

    private static void anySizeOfNothing(Check check) {
        for (int n : Benches.outside(0, 40)) {
            SetterBench bench = new SetterBench();
            bench.lay(0, Benches.INTS, 3);
            check.due("lay(0, 0, " + n + ")", bench.lay(0, 0, n), true);
            check.due("thing(0, 0)", bench.thing(0, 0), 0);
            check.due("thing(0, 1)", bench.thing(0, 1), 0);
        }
    }

    private static void eachSort(Check check) {
        for (int sort = 0; sort <= 10; sort++) {
            SetterBench bench = new SetterBench();
            check.due("lay(3, " + sort + ", 2)", bench.lay(3, sort, 2), true);
            check.due("thing(3, 0)", bench.thing(3, 0), sort);
            check.due("light(3)", bench.light(3), sort == 1 ? 1 : -1);
            check.due("member(3, 1)", bench.member(3, 1), sort >= 2 ? 0 : -1);
            check.due("set(3, 1, 1)", bench.set(3, 1, 1), sort == 0 ? 1 : sort >= 2 && sort <= 5 ? 0 : 2);
            check.due("worth(3)", bench.worth(3), sort >= 6 ? 0 : -1);
        }
    }

    private static void nothingInPlace(Check check) {
        for (int sort = 0; sort <= 10; sort++) {
            SetterBench bench = new SetterBench();
            bench.lay(6, sort, 2);
            check.due("lay(6, 0, 0)", bench.lay(6, 0, 0), true);
            check.due("thing(6, 0)", bench.thing(6, 0), 0);
            check.due("member(6, 0)", bench.member(6, 0), -1);
        }
    }

    private static void newInPlaceOfOld(Check check) {
        SetterBench bench = new SetterBench();
        Benches.layNumbers(bench, 0, Benches.INTS, 1, 2);
        bench.share(0, 7);
        bench.lay(0, Benches.INTS, 2);
        check.members("the new one", bench, 0, 0, 0);
        check.members("the old one, on its other place", bench, 7, 1, 2);
        check.due("thing(7, 2)", bench.thing(7, 2), 7);
    }

    private static void newLamp(Check check) {
        SetterBench bench = new SetterBench();
        bench.lay(0, Benches.LAMP, 0);
        bench.light(0);
        bench.share(0, 7);
        bench.lay(0, Benches.LAMP, 0);
        check.due("the new one: light(0)", bench.light(0), 1);
        check.due("the old one: light(7)", bench.light(7), 2);
    }
}
