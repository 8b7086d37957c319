/** Promise 5, put: its boundary cases. */
public final class P05PutEdgesTest {
    public static void main(String[] args) {
        Sentences put = new Sentences();
        put.holds("a sort 1 .. 4: the least and the greatest", P05PutEdgesTest::eachStone);
        put.holds("or a GAP (sort 0): in place of a stone", P05PutEdgesTest::gapInPlace);
        put.holds("a GAP is no stone that is made", P05PutEdgesTest::gapIsNotMade);
        put.holds("to MEMBER i: the first and the last, and no other one", P05PutEdgesTest::firstAndLast);
        put.holds("on p: the first and the last place", P05PutEdgesTest::firstAndLastPlace);
        put.holds("its answer: EMPTY", P05PutEdgesTest::empty);
        put.holds("its answer: UNLIKE, a LAMP", P05PutEdgesTest::lamp);
        put.holds("its answer: UNLIKE, TRAYS of numbers (the hand is one of stones)", P05PutEdgesTest::numbers);
        put.holds("its answer: BEYOND, i below 0 or not below how many MEMBERS", P05PutEdgesTest::beyond);
        put.holds("its answer: BEYOND, a TRAY of none", P05PutEdgesTest::beyondNone);
        put.holds("its answer: BEYOND, a TRAY of forty", P05PutEdgesTest::beyondForty);
        put.holds("its answer: BEYOND ahead of a stone that is not taken", P05PutEdgesTest::beyondFirst);
        put.holds("its answer: 10, a stone that the TRAY does not take; nothing else is done", P05PutEdgesTest::stops);
        put.holds("(a stone that does not get there is gone): it has had its number", P05PutEdgesTest::goneStones);
        put.holds("NONE, nothing being made: no such place", P05PutEdgesTest::noSuchPlace);
        put.holds("NONE, nothing being made: no such sort", P05PutEdgesTest::noSuchSort);
        put.holds("KEPT is what sweep() says: put() leaves it", P05PutEdgesTest::leavesKept);
        put.end();
    }

    private static void eachStone(Check check) {
        for (int stone = 0; stone <= 4; stone++) {
            SetterBench bench = new SetterBench();
            bench.lay(0, Benches.STONES, 1);
            check.due("put(0, 0, " + stone + ")", bench.put(0, 0, stone), 0);
            check.due("member(0, 0)", bench.member(0, 0), stone == 0 ? 0 : 10 + stone);
        }
    }

    private static void gapInPlace(Check check) {
        for (int sort = 6; sort <= 10; sort++) {
            int stone = sort == Benches.PEARLS ? Benches.PEARL : Benches.RUBY;
            SetterBench bench = new SetterBench();
            Benches.layStones(bench, 0, sort, stone, stone);
            check.due("sort " + sort + ": put(0, 1, 0)", bench.put(0, 1, Benches.GAP), 0);
            check.members("sort " + sort, bench, 0, 10 + stone, 0);
        }
    }

    private static void gapIsNotMade(Check check) {
        SetterBench bench = new SetterBench();
        bench.lay(0, Benches.STONES, 2);
        bench.put(0, 0, Benches.GAP);
        bench.put(1, 0, Benches.GAP);
        check.counts("gaps alone", bench, 0, 1, 1, 0, 0, 0, 1);
        bench.put(0, 1, Benches.GEM);
        check.members("the first stone", bench, 0, 0, 12);
    }

    private static void firstAndLast(Check check) {
        for (int n : new int[] {1, 2, 40}) {
            for (int i : new int[] {0, n - 1}) {
                SetterBench bench = new SetterBench();
                bench.lay(3, Benches.GEMS, n);
                check.due("put(3, " + i + ", 3)", bench.put(3, i, Benches.RUBY), 0);
                for (int k = 0; k < n; k++) {
                    check.due("of " + n + ": member(3, " + k + ")", bench.member(3, k), k == i ? 13 : 0);
                }
            }
        }
    }

    private static void firstAndLastPlace(Check check) {
        SetterBench bench = new SetterBench();
        bench.lay(0, Benches.STONES, 1);
        bench.lay(7, Benches.STONES, 1);
        check.due("put(0, 0, 1)", bench.put(0, 0, Benches.PLAIN), 0);
        check.due("put(7, 0, 4)", bench.put(7, 0, Benches.PEARL), 0);
        check.members("on 0", bench, 0, 11);
        check.members("on 7", bench, 7, 24);
    }

    private static void empty(Check check) {
        for (int i : new int[] {0, 1, -1, Benches.MIN, Benches.MAX}) {
            Refusals.sweep(check, "put(0, " + i + ", 2)", 1, 1, bench -> bench.put(0, i, Benches.GEM));
            Refusals.sweep(check, "put(0, " + i + ", 0)", 1, 0, bench -> bench.put(0, i, Benches.GAP));
        }
    }

    private static void lamp(Check check) {
        for (int i : new int[] {0, 1, -1, Benches.MIN, Benches.MAX}) {
            Refusals.sweep(check, "put(1, " + i + ", 2)", 2, 1, bench -> bench.put(1, i, Benches.GEM));
            Refusals.sweep(check, "put(1, " + i + ", 0)", 2, 0, bench -> bench.put(1, i, Benches.GAP));
        }
    }

    private static void numbers(Check check) {
        for (int i : new int[] {0, 1, -1, Benches.MIN, Benches.MAX}) {
            Refusals.sweep(check, "put(2, " + i + ", 2)", 2, 1, bench -> bench.put(2, i, Benches.GEM));
            Refusals.sweep(check, "put(2, " + i + ", 0)", 2, 0, bench -> bench.put(2, i, Benches.GAP));
        }
        for (int sort = 2; sort <= 5; sort++) {
            for (int n : new int[] {0, 1, 40}) {
                SetterBench bench = new SetterBench();
                bench.lay(0, sort, n);
                check.due("sort " + sort + " of " + n + ": put(0, 0, 1)", bench.put(0, 0, 1), 2);
                check.due("member(0, 0)", bench.member(0, 0), n == 0 ? -1 : 0);
            }
        }
    }

    private static void beyond(Check check) {
        for (int i : Benches.outside(0, 3)) {
            Refusals.sweep(check, "put(4, " + i + ", 2)", 3, 1, bench -> bench.put(4, i, Benches.GEM));
            Refusals.sweep(check, "put(4, " + i + ", 0)", 3, 0, bench -> bench.put(4, i, Benches.GAP));
        }
    }

    private static void beyondNone(Check check) {
        for (int sort = 6; sort <= 10; sort++) {
            for (int i : new int[] {-1, 0, 1, Benches.MIN, Benches.MAX}) {
                SetterBench bench = new SetterBench();
                bench.lay(0, sort, 0);
                check.due("sort " + sort + ": put(0, " + i + ", 3)", bench.put(0, i, Benches.RUBY), 3);
                check.counts("beyond", bench, 1, 0, 0, 0, 1, 0, 0);
            }
        }
    }

    private static void beyondForty(Check check) {
        SetterBench bench = new SetterBench();
        bench.lay(0, Benches.STONES, 40);
        for (int i : Benches.outside(0, 39)) {
            check.due("put(0, " + i + ", 1)", bench.put(0, i, 1), 3);
        }
        for (int i = 0; i < 40; i++) {
            check.due("member(0, " + i + ")", bench.member(0, i), 0);
        }
        check.due("put(0, 39, 1)", bench.put(0, 39, 1), 0);
    }

    private static void beyondFirst(Check check) {
        for (int i : Benches.outside(0, 2)) {
            Refusals.sweep(check, "put(5, " + i + ", 1)", 3, 1, bench -> bench.put(5, i, Benches.PLAIN));
            Refusals.sweep(check, "put(5, " + i + ", 4)", 3, 1, bench -> bench.put(5, i, Benches.PEARL));
        }
    }

    private static void stops(Check check) {
        for (int i = 0; i < 3; i++) {
            SetterBench bench = Benches.mixed();
            SetterBench other = Benches.mixed();
            check.due("put(5, " + i + ", 4)", bench.put(5, i, Benches.PEARL), 10);
            check.due("count(0)", bench.count(0), other.count(0) + 1);
            check.due("count(5)", bench.count(5), other.count(5) + 1);
            check.due("count(6)", bench.count(6), other.count(6));
            check.due("nothing was carried", Shown.allButCounts(bench), Shown.allButCounts(other));
        }
    }

    private static void goneStones(Check check) {
        SetterBench bench = new SetterBench();
        bench.lay(0, Benches.PEARLS, 2);
        bench.lay(1, Benches.LAMP, 0);
        bench.put(0, 0, Benches.RUBY);
        bench.put(1, 0, Benches.PEARL);
        bench.put(2, 0, Benches.PEARL);
        bench.put(0, 2, Benches.PEARL);
        check.members("four are gone", bench, 0, 0, 0);
        check.due("count(0)", bench.count(0), 4);
        bench.put(0, 1, Benches.PEARL);
        check.members("the fifth one", bench, 0, 0, 54);
    }

    private static void noSuchPlace(Check check) {
        for (int p : Benches.outside(0, 7)) {
            for (int stone = -1; stone <= 5; stone++) {
                int sort = stone;
                Refusals.unchanged(check, "put(" + p + ", 0, " + sort + ")", -1, bench -> bench.put(p, 0, sort));
            }
        }
    }

    private static void noSuchSort(Check check) {
        for (int sort : Benches.outside(0, 4)) {
            for (int p = 0; p < 8; p++) {
                int place = p;
                Refusals.unchanged(check, "put(" + p + ", 0, " + sort + ")", -1, bench -> bench.put(place, 0, sort));
                Refusals.unchanged(check, "put(" + p + ", 9, " + sort + ")", -1, bench -> bench.put(place, 9, sort));
            }
        }
    }

    private static void leavesKept(Check check) {
        SetterBench bench = new SetterBench();
        bench.lay(0, Benches.STONES, 2);
        bench.put(0, 0, Benches.GEM);
        check.due("put alone: back()", bench.back(), -1);
        bench.lay(1, Benches.GEMS, 1);
        bench.sweep(0, 0, 1, 0, 1);
        bench.put(0, 1, Benches.PLAIN);
        bench.put(1, 0, Benches.PLAIN);
        check.due("sweep, then put: back()", bench.back(), 1);
        check.members("of the sweep", bench, 1, 0);
        check.members("not of the put", bench, 0, 12, 21);
    }
}
