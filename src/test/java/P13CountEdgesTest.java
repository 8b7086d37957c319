/** Promise 13, count: its boundary cases. */
public final class P13CountEdgesTest {
    public static void main(String[] args) {
        Sentences count = new Sentences();
        count.holds("How many: 0 at first", check -> check.counts("new", new SetterBench(), 0, 0, 0, 0, 0, 0, 0));
        count.holds("0 stones that were made: those that are gone, too, but no GAPS", P13CountEdgesTest::stonesMade);
        count.holds("SWEEPS .. that answered 1: 0; of n 0, too", P13CountEdgesTest::done);
        count.holds("SWEEPS .. 2: EMPTY", P13CountEdgesTest::empty);
        count.holds("SWEEPS .. 3: UNLIKE", P13CountEdgesTest::unlike);
        count.holds("SWEEPS .. 4: BEYOND", P13CountEdgesTest::beyond);
        count.holds("SWEEPS .. 5: that stopped, at the first stone, too", P13CountEdgesTest::stopped);
        count.holds("SWEEPS, of put(), too", P13CountEdgesTest::ofPut);
        count.holds("6 MEMBERS that were carried: also those of a SWEEP that stopped", P13CountEdgesTest::carried);
        count.holds("6 MEMBERS that were carried in all: to the last of 512 calls", P13CountEdgesTest::carriedInAll);
        count.holds("(not by back())", P13CountEdgesTest::notByBack);
        count.holds("calls that answered NONE are counted nowhere", P13CountEdgesTest::noneIsNotCounted);
        count.holds("calls that are no SWEEPS are counted nowhere", P13CountEdgesTest::otherCalls);
        count.holds("NONE for others", P13CountEdgesTest::noSuchWhat);
        count.end();
    }

    private static void stonesMade(Check check) {
        SetterBench bench = new SetterBench();
        bench.lay(0, Benches.PEARLS, 1);
        bench.put(0, 0, Benches.PEARL);
        check.due("count(0)", bench.count(0), 1);
        bench.put(0, 0, Benches.GAP);
        check.due("a gap: count(0)", bench.count(0), 1);
        bench.put(0, 0, Benches.PLAIN);
        bench.put(0, 1, Benches.PEARL);
        bench.put(1, 0, Benches.PEARL);
        check.due("gone: count(0)", bench.count(0), 4);
        bench.sweep(0, 0, 0, 0, 1);
        check.due("swept: count(0)", bench.count(0), 4);
    }

    private static void done(Check check) {
        SetterBench bench = new SetterBench();
        bench.lay(0, Benches.INTS, 2);
        bench.lay(1, Benches.INTS, 0);
        bench.sweep(0, 0, 0, 0, 2);
        bench.sweep(0, 2, 0, 2, 0);
        bench.sweep(1, 0, 1, 0, 0);
        check.counts("done", bench, 0, 3, 0, 0, 0, 0, 2);
    }

    private static void empty(Check check) {
        SetterBench bench = new SetterBench();
        bench.lay(0, Benches.INTS, 2);
        bench.sweep(0, 0, 1, 0, 1);
        bench.sweep(1, 0, 0, 0, 1);
        bench.sweep(1, -1, 1, -1, -1);
        check.counts("empty", bench, 0, 0, 3, 0, 0, 0, 0);
    }

    private static void unlike(Check check) {
        SetterBench bench = new SetterBench();
        bench.lay(0, Benches.INTS, 2);
        bench.lay(1, Benches.LAMP, 0);
        bench.lay(2, Benches.STONES, 2);
        bench.sweep(0, 0, 1, 0, 1);
        bench.sweep(1, 0, 0, 0, 1);
        bench.sweep(1, 0, 1, 0, 0);
        bench.sweep(0, -1, 2, 3, 5);
        check.counts("unlike", bench, 0, 0, 0, 4, 0, 0, 0);
    }

    private static void beyond(Check check) {
        SetterBench bench = new SetterBench();
        bench.lay(0, Benches.INTS, 2);
        bench.sweep(0, 0, 0, 0, 3);
        bench.sweep(0, -1, 0, 0, 0);
        bench.sweep(0, 1, 0, 0, Benches.MAX);
        check.counts("beyond", bench, 0, 0, 0, 0, 3, 0, 0);
    }

    private static void stopped(Check check) {
        SetterBench bench = new SetterBench();
        Benches.layStones(bench, 0, Benches.STONES, Benches.PEARL, Benches.PLAIN);
        bench.lay(1, Benches.PEARLS, 2);
        bench.sweep(0, 1, 1, 0, 1);
        check.counts("at the first stone", bench, 2, 2, 0, 0, 0, 1, 2);
        bench.sweep(0, 0, 1, 0, 2);
        check.counts("at the second stone", bench, 2, 2, 0, 0, 0, 2, 3);
    }

    private static void ofPut(Check check) {
        SetterBench bench = new SetterBench();
        bench.lay(1, Benches.LAMP, 0);
        bench.lay(2, Benches.GEMS, 1);
        bench.put(2, 0, Benches.GEM);
        check.counts("0", bench, 1, 1, 0, 0, 0, 0, 1);
        bench.put(0, 0, Benches.GEM);
        check.counts("empty", bench, 2, 1, 1, 0, 0, 0, 1);
        bench.put(1, 0, Benches.GEM);
        check.counts("unlike", bench, 3, 1, 1, 1, 0, 0, 1);
        bench.put(2, 1, Benches.GEM);
        check.counts("beyond", bench, 4, 1, 1, 1, 1, 0, 1);
        bench.put(2, 0, Benches.PEARL);
        check.counts("stopped", bench, 5, 1, 1, 1, 1, 1, 1);
        bench.put(2, 0, Benches.GAP);
        check.counts("a gap", bench, 5, 2, 1, 1, 1, 1, 2);
    }

    private static void carried(Check check) {
        SetterBench bench = new SetterBench();
        Benches.layStones(bench, 0, Benches.STONES, Benches.GAP, Benches.GEM, Benches.PLAIN, Benches.GEM);
        bench.lay(1, Benches.GEMS, 4);
        check.due("by put: count(6)", bench.count(6), 4);
        bench.sweep(0, 0, 1, 0, 4);
        check.due("a gap and a gem: count(6)", bench.count(6), 6);
        bench.sweep(0, 2, 1, 0, 2);
        check.due("none: count(6)", bench.count(6), 6);
        bench.sweep(0, 3, 1, 3, 1);
        check.due("one: count(6)", bench.count(6), 7);
    }

    private static void carriedInAll(Check check) {
        SetterBench bench = new SetterBench();
        bench.lay(0, Benches.LONGS, 40);
        for (int sweep = 1; sweep <= 509; sweep++) {
            check.due("sweep " + sweep, bench.sweep(0, 0, 0, 0, 40), 0);
        }
        check.due("count(1)", bench.count(1), 509);
        check.due("count(6)", bench.count(6), 20360);
    }

    private static void notByBack(Check check) {
        SetterBench bench = new SetterBench();
        bench.lay(0, Benches.INTS, 40);
        bench.sweep(0, 0, 0, 0, 1);
        bench.back();
        bench.back();
        check.counts("after back()", bench, 0, 1, 0, 0, 0, 0, 1);
    }

    private static void noneIsNotCounted(Check check) {
        SetterBench bench = new SetterBench();
        bench.lay(0, Benches.STONES, 2);
        for (int p : Benches.outside(0, 7)) {
            bench.put(p, 0, Benches.GEM);
            bench.sweep(p, 0, 0, 0, 1);
            bench.sweep(0, 0, p, 0, 1);
        }
        for (int sort : Benches.outside(0, 4)) {
            bench.put(0, 0, sort);
        }
        check.counts("NONE", bench, 0, 0, 0, 0, 0, 0, 0);
    }

    private static void otherCalls(Check check) {
        SetterBench bench = new SetterBench();
        bench.lay(0, Benches.STONES, 2);
        bench.lay(1, Benches.INTS, 2);
        bench.lay(2, Benches.LAMP, 2);
        bench.lay(8, Benches.INTS, 2);
        bench.share(0, 3);
        bench.share(0, 8);
        for (int p = 0; p <= 8; p++) {
            bench.set(p, 0, 1);
            bench.set(p, 5, 1);
            bench.light(p);
            bench.member(p, 0);
            bench.member(p, 5);
            bench.thing(p, 2);
            bench.worth(p);
            bench.mirror(p, 0);
        }
        bench.back();
        check.counts("no sweeps", bench, 0, 0, 0, 0, 0, 0, 0);
    }

    private static void noSuchWhat(Check check) {
        for (int what : Benches.outside(0, 6)) {
            Refusals.unchanged(check, "count(" + what + ")", -1, bench -> bench.count(what));
        }
    }
}
