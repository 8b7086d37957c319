/** Promise 10, thing: its boundary cases. */
public final class P10ThingEdgesTest {
    public static void main(String[] args) {
        Sentences thing = new Sentences();
        thing.holds("what 0: its sort, the least and the greatest", P10ThingEdgesTest::sorts);
        thing.holds("what 0: (0 NOTHING)", P10ThingEdgesTest::sortOfNothing);
        thing.holds("1: how many MEMBERS, 0 .. 40", P10ThingEdgesTest::sizes);
        thing.holds("1: (0 of a LAMP)", P10ThingEdgesTest::sizeOfLamp);
        thing.holds("1: (0 .. of NOTHING)", P10ThingEdgesTest::sizeOfNothing);
        thing.holds("2: the least place on which the same lies", P10ThingEdgesTest::leastPlace);
        thing.holds("2: the same, not one that is alike", P10ThingEdgesTest::alike);
        thing.holds("2: (p, if NOTHING does)", P10ThingEdgesTest::placeOfNothing);
        thing.holds("NONE: no such place", P10ThingEdgesTest::noSuchPlace);
        thing.holds("NONE: no such what", P10ThingEdgesTest::noSuchWhat);
        thing.end();
    }

    private static void sorts(Check check) {
        for (int p = 0; p < 8; p++) {
            for (int sort = 0; sort <= 10; sort++) {
                SetterBench bench = new SetterBench();
                bench.lay(p, sort, 0);
                check.due("thing(" + p + ", 0)", bench.thing(p, 0), sort);
            }
        }
    }

    private static void sortOfNothing(Check check) {
        SetterBench bench = new SetterBench();
        check.due("never laid: thing(7, 0)", bench.thing(7, 0), 0);
        bench.lay(7, Benches.ROUNDS, 40);
        bench.lay(7, 0, 40);
        check.due("laid: thing(7, 0)", bench.thing(7, 0), 0);
        bench.lay(7, Benches.LAMP, 0);
        bench.share(0, 7);
        check.due("shared: thing(7, 0)", bench.thing(7, 0), 0);
    }

    private static void sizes(Check check) {
        for (int n = 0; n <= 40; n++) {
            SetterBench bench = new SetterBench();
            bench.lay(0, Benches.FLAGS, n);
            bench.lay(7, Benches.GEMS, n);
            check.due("thing(0, 1)", bench.thing(0, 1), n);
            check.due("thing(7, 1)", bench.thing(7, 1), n);
        }
    }

    private static void sizeOfLamp(Check check) {
        for (int n : new int[] {0, 1, 40, 41, -1}) {
            SetterBench bench = new SetterBench();
            bench.lay(0, Benches.LAMP, n);
            bench.light(0);
            check.due("thing(0, 1)", bench.thing(0, 1), 0);
        }
    }

    private static void sizeOfNothing(Check check) {
        SetterBench bench = new SetterBench();
        check.due("never laid: thing(0, 1)", bench.thing(0, 1), 0);
        bench.lay(0, Benches.INTS, 40);
        bench.lay(0, 0, 40);
        check.due("laid: thing(0, 1)", bench.thing(0, 1), 0);
    }

    private static void leastPlace(Check check) {
        for (int first = 0; first < 8; first++) {
            for (int last = first; last < 8; last++) {
                for (int sort : new int[] {1, 2, 10}) {
                    SetterBench bench = new SetterBench();
                    bench.lay(last, sort, 0);
                    bench.share(last, first);
                    check.due("the last: thing(" + last + ", 2)", bench.thing(last, 2), first);
                    check.due("the first: thing(" + first + ", 2)", bench.thing(first, 2), first);
                    bench.lay(first, 0, 0);
                    check.due("alone: thing(" + last + ", 2)", bench.thing(last, 2), last);
                }
            }
        }
    }

    private static void alike(Check check) {
        for (int sort = 1; sort <= 10; sort++) {
            for (int n : new int[] {0, 2}) {
                SetterBench bench = new SetterBench();
                for (int p = 0; p < 8; p++) {
                    bench.lay(p, sort, n);
                }
                for (int p = 0; p < 8; p++) {
                    check.due("sort " + sort + " of " + n + ": thing(" + p + ", 2)", bench.thing(p, 2), p);
                }
            }
        }
    }

    private static void placeOfNothing(Check check) {
        SetterBench bench = new SetterBench();
        bench.share(0, 7);
        for (int p = 0; p < 8; p++) {
            check.due("thing(" + p + ", 2)", bench.thing(p, 2), p);
        }
    }

    private static void noSuchPlace(Check check) {
        for (int p : Benches.outside(0, 7)) {
            for (int what = -1; what <= 3; what++) {
                int asked = what;
                Refusals.unchanged(check, "thing(" + p + ", " + what + ")", -1, bench -> bench.thing(p, asked));
            }
        }
    }

    private static void noSuchWhat(Check check) {
        for (int what : Benches.outside(0, 2)) {
            for (int p = 0; p < 8; p++) {
                int place = p;
                Refusals.unchanged(check, "thing(" + p + ", " + what + ")", -1, bench -> bench.thing(place, what));
            }
        }
    }
}
