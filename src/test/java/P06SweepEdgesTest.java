/** Promise 6, sweep: the boundary cases of its places, of what a SWEEP refuses, and of what it KEEPS. */
public final class P06SweepEdgesTest {
    private static final int MIN = Benches.MIN;
    private static final int MAX = Benches.MAX;
    /** Runs that lie beyond any tray: MEMBER i, MEMBER j, n. */
    private static final int[][] FAR_RUNS = {{-1, 0, 1}, {0, 99, 1}, {0, 0, -1}, {MAX, MAX, MAX}, {MIN, MIN, MIN}};

    public static void main(String[] args) {
        Sentences sweep = new Sentences();
        placesAndRefusals(sweep);
        beyond(sweep);
        kept(sweep);
        sweep.end();
    }

    private static void placesAndRefusals(Sentences sweep) {
        sweep.holds("NONE: no such place, p", P06SweepEdgesTest::noSuchFirst);
        sweep.holds("NONE: no such place, q", P06SweepEdgesTest::noSuchSecond);
        sweep.holds("NONE: no such place, neither p nor q", P06SweepEdgesTest::neither);
        sweep.holds("the THING on p, the THING on q: from each place to each", P06SweepEdgesTest::eachPair);
        sweep.holds("1 EMPTY: the first one is NOTHING", P06SweepEdgesTest::fromNothing);
        sweep.holds("1 EMPTY: the second one is NOTHING", P06SweepEdgesTest::toNothing);
        sweep.holds("1 EMPTY: both are NOTHING", P06SweepEdgesTest::nothingTwice);
        sweep.holds("the first of these: EMPTY ahead of UNLIKE", P06SweepEdgesTest::emptyAheadOfUnlike);
        sweep.holds("the first of these: EMPTY ahead of BEYOND", P06SweepEdgesTest::emptyAheadOfBeyond);
        sweep.holds("2 UNLIKE: the first one is a LAMP", P06SweepEdgesTest::fromLamp);
        sweep.holds("2 UNLIKE: the second one is a LAMP", P06SweepEdgesTest::toLamp);
        sweep.holds("2 UNLIKE: both are LAMPS, or the same LAMP", P06SweepEdgesTest::lampTwice);
        for (int one = 2; one <= 10; one++) {
            int from = one;
            sweep.holds("2 UNLIKE: TRAYS of unlike sorts, not both of stones: from sort " + one,
                check -> likeAndUnlike(check, from));
        }
        sweep.holds("the first of these: UNLIKE ahead of BEYOND", P06SweepEdgesTest::unlikeAheadOfBeyond);
    }

    private static void beyond(Sentences sweep) {
        sweep.holds("3 BEYOND: i is below 0", P06SweepEdgesTest::firstBelow);
        sweep.holds("3 BEYOND: j is below 0", P06SweepEdgesTest::secondBelow);
        sweep.holds("3 BEYOND: n is below 0", P06SweepEdgesTest::countBelow);
        sweep.holds("3 BEYOND: i + n is above how many MEMBERS the first one has", P06SweepEdgesTest::firstAbove);
        sweep.holds("3 BEYOND: j + n above those of the second one", P06SweepEdgesTest::secondAbove);
        sweep.holds("3 BEYOND: i + n passes the greatest int", P06SweepEdgesTest::firstPassesInts);
        sweep.holds("3 BEYOND: j + n passes the greatest int", P06SweepEdgesTest::secondPassesInts);
        sweep.holds("3 BEYOND, or not: every run about two small TRAYS", P06SweepEdgesTest::everyRun);
        sweep.holds("3 BEYOND, or not: every run about a TRAY of forty", P06SweepEdgesTest::everyRunOfForty);
        sweep.holds("i + n .. j + n: n 0 just behind the last MEMBERS", P06SweepEdgesTest::noneAtTheEnds);
        sweep.holds("TRAYS of 0 MEMBERS: only n 0 from 0 to 0", P06SweepEdgesTest::traysOfNone);
        sweep.holds("the first of these: BEYOND ahead of a stone that is not taken", P06SweepEdgesTest::beyondAheadOfStop);
        sweep.holds("In these nothing is done", P06SweepEdgesTest::nothingIsDone);
    }

    private static void kept(Sentences sweep) {
        sweep.holds("When it is 0 .. are KEPT", P06SweepEdgesTest::keptWhenDone);
        sweep.holds("When it is 0 .. are KEPT: of n 0, too", P06SweepEdgesTest::keptWhenNoneCarried);
        sweep.holds("10 .. are KEPT", P06SweepEdgesTest::keptWhenStoppedAtOnce);
        sweep.holds("10 or more .. are KEPT", P06SweepEdgesTest::keptWhenStopped);
        sweep.holds("When it is 1, 2, 3 or NONE nothing is KEPT", P06SweepEdgesTest::notKeptWhenRefused);
        sweep.holds("all MEMBERS that the TRAY on q had ahead of it: forty", P06SweepEdgesTest::allFortyKept);
        sweep.holds("ahead of it: also where the TRAY lies over itself", P06SweepEdgesTest::keptOverItself);
        sweep.holds("in place of what was KEPT before", P06SweepEdgesTest::inPlaceOfKept);
        sweep.holds("in place of what was KEPT before: of more MEMBERS, and of fewer", P06SweepEdgesTest::otherSizes);
    }

    private static void refused(Check check, int want, int p, int q, int[] run) {
        String call = "sweep(" + p + ", " + run[0] + ", " + q + ", " + run[1] + ", " + run[2] + ")";
        Refusals.sweep(check, call, want, 0, bench -> bench.sweep(p, run[0], q, run[1], run[2]));
    }

    private static int[] run(int i, int j, int n) {
        return new int[] {i, j, n};
    }

    private static void noSuchFirst(Check check) {
        for (int p : Benches.outside(0, 7)) {
            for (int q : new int[] {0, 1, 2, 7}) {
                Refusals.unchanged(check, "sweep from " + p + " to " + q, -1, bench -> bench.sweep(p, 0, q, 0, 1));
                Refusals.unchanged(check, "sweep of none from " + p, -1, bench -> bench.sweep(p, 0, q, 0, 0));
            }
        }
    }

    private static void noSuchSecond(Check check) {
        for (int q : Benches.outside(0, 7)) {
            for (int p : new int[] {0, 1, 2, 7}) {
                Refusals.unchanged(check, "sweep from " + p + " to " + q, -1, bench -> bench.sweep(p, 0, q, 0, 1));
                Refusals.unchanged(check, "beyond, to " + q, -1, bench -> bench.sweep(p, -1, q, -1, -1));
            }
        }
    }

    private static void neither(Check check) {
        for (int p : Benches.outside(0, 7)) {
            for (int q : Benches.outside(0, 7)) {
                check.due("sweep from " + p + " to " + q, new SetterBench().sweep(p, 0, q, 0, 0), -1);
            }
        }
    }

    private static void eachPair(Check check) {
        for (int p = 0; p < 8; p++) {
            for (int q = 0; q < 8; q++) {
                SetterBench bench = new SetterBench();
                Benches.layNumbers(bench, q, Benches.INTS, 5, 6);
                Benches.layNumbers(bench, p, Benches.INTS, 1, 2);
                check.due("sweep(" + p + ", 0, " + q + ", 1, 1)", bench.sweep(p, 0, q, 1, 1), 0);
                check.members("from " + p + " to " + q, bench, q, p == q ? 1 : 5, 1);
            }
        }
    }

    private static void fromNothing(Check check) {
        for (int q = 1; q < 8; q++) {
            refused(check, 1, 0, q, run(0, 0, 1));
            refused(check, 1, 0, q, run(0, 0, 0));
        }
    }

    private static void toNothing(Check check) {
        for (int p = 1; p < 8; p++) {
            refused(check, 1, p, 0, run(0, 0, 1));
            refused(check, 1, p, 0, run(0, 0, 0));
        }
    }

    private static void nothingTwice(Check check) {
        refused(check, 1, 0, 0, run(0, 0, 0));
        refused(check, 1, 0, 0, run(0, 0, 1));
        SetterBench bench = new SetterBench();
        check.due("sweep(3, 0, 4, 0, 0)", bench.sweep(3, 0, 4, 0, 0), 1);
    }

    private static void emptyAheadOfUnlike(Check check) {
        refused(check, 1, 0, 1, run(0, 0, 0));
        refused(check, 1, 1, 0, run(0, 0, 0));
    }

    private static void emptyAheadOfBeyond(Check check) {
        for (int[] run : FAR_RUNS) {
            refused(check, 1, 0, 0, run);
            refused(check, 1, 0, 2, run);
            refused(check, 1, 2, 0, run);
            refused(check, 1, 0, 1, run);
            refused(check, 1, 1, 0, run);
        }
    }

    private static void fromLamp(Check check) {
        for (int q = 2; q < 8; q++) {
            refused(check, 2, 1, q, run(0, 0, 1));
            refused(check, 2, 1, q, run(0, 0, 0));
        }
    }

    private static void toLamp(Check check) {
        for (int p = 2; p < 8; p++) {
            refused(check, 2, p, 1, run(0, 0, 1));
            refused(check, 2, p, 1, run(0, 0, 0));
        }
    }

    private static void lampTwice(Check check) {
        refused(check, 2, 1, 1, run(0, 0, 0));
        refused(check, 2, 1, 1, run(0, 0, 1));
        SetterBench bench = new SetterBench();
        bench.lay(3, Benches.LAMP, 0);
        bench.lay(4, Benches.LAMP, 0);
        check.due("two lamps", bench.sweep(3, 0, 4, 0, 0), 2);
    }

    private static void likeAndUnlike(Check check, int from) {
        for (int to = 2; to <= 10; to++) {
            boolean like = from == to || (from >= 6 && to >= 6);
            for (int n : new int[] {0, 1, 40}) {
                SetterBench bench = new SetterBench();
                bench.lay(0, from, n);
                bench.lay(1, to, n);
                check.due("sort " + from + " to sort " + to + ", all of " + n, bench.sweep(0, 0, 1, 0, n), like ? 0 : 2);
                check.due("sort " + from + " to sort " + to + ", none", bench.sweep(0, 0, 1, 0, 0), like ? 0 : 2);
                check.due("sort " + from + " to sort " + to + ", too many", bench.sweep(0, 0, 1, 0, n + 1), like ? 3 : 2);
                check.counts("sort " + from + " to sort " + to, bench,
                    0, like ? 2 : 0, 0, like ? 0 : 3, like ? 1 : 0, 0, like ? n : 0);
            }
        }
    }

    private static void unlikeAheadOfBeyond(Check check) {
        for (int[] run : FAR_RUNS) {
            refused(check, 2, 1, 1, run);
            refused(check, 2, 1, 2, run);
            refused(check, 2, 2, 1, run);
            refused(check, 2, 2, 3, run);
            refused(check, 2, 3, 2, run);
            refused(check, 2, 2, 4, run);
            refused(check, 2, 4, 2, run);
        }
    }

    private static void firstBelow(Check check) {
        for (int i : new int[] {-1, -2, -3, -100, MIN, MIN + 1}) {
            refused(check, 3, 2, 7, run(i, 0, 0));
            refused(check, 3, 2, 7, run(i, 0, 1));
            refused(check, 3, 2, 7, run(i, 0, 3));
            refused(check, 3, 4, 5, run(i, 0, 1));
        }
    }

    private static void secondBelow(Check check) {
        for (int j : new int[] {-1, -2, -3, -100, MIN, MIN + 1}) {
            refused(check, 3, 2, 7, run(0, j, 0));
            refused(check, 3, 2, 7, run(0, j, 1));
            refused(check, 3, 2, 7, run(0, j, 3));
            refused(check, 3, 4, 5, run(1, j, 1));
        }
    }

    private static void countBelow(Check check) {
        for (int n : new int[] {-1, -2, -3, -100, MIN, MIN + 1}) {
            refused(check, 3, 2, 7, run(0, 0, n));
            refused(check, 3, 2, 7, run(3, 4, n));
            refused(check, 3, 2, 7, run(1, 1, n));
            refused(check, 3, 4, 5, run(3, 3, n));
            refused(check, 3, 2, 7, run(MAX, MAX, n));
        }
    }

    /** The INTS on 2 have three members, those on 7 four: these runs fit into the second tray. */
    private static void firstAbove(Check check) {
        refused(check, 3, 2, 7, run(0, 0, 4));
        refused(check, 3, 2, 7, run(1, 0, 3));
        refused(check, 3, 2, 7, run(2, 0, 2));
        refused(check, 3, 2, 7, run(3, 0, 1));
        refused(check, 3, 2, 7, run(4, 0, 0));
        refused(check, 3, 2, 7, run(100, 0, 0));
        refused(check, 3, 2, 7, run(MAX, 0, 0));
        refused(check, 3, 5, 4, run(0, 0, 4));
        refused(check, 3, 5, 4, run(3, 0, 1));
    }

    /** Here all runs fit into the first tray. */
    private static void secondAbove(Check check) {
        refused(check, 3, 7, 2, run(0, 0, 4));
        refused(check, 3, 7, 2, run(0, 1, 3));
        refused(check, 3, 7, 2, run(0, 2, 2));
        refused(check, 3, 7, 2, run(0, 3, 1));
        refused(check, 3, 7, 2, run(0, 4, 0));
        refused(check, 3, 7, 2, run(0, 100, 0));
        refused(check, 3, 7, 2, run(0, MAX, 0));
        refused(check, 3, 4, 5, run(2, 3, 1));
        refused(check, 3, 4, 5, run(0, 4, 0));
    }

    private static void firstPassesInts(Check check) {
        for (int n : new int[] {1, 2, 3, 4}) {
            refused(check, 3, 2, 7, run(MAX, 0, n));
            refused(check, 3, 2, 7, run(MAX - n + 1, 0, n));
            refused(check, 3, 4, 5, run(MAX, 0, n));
        }
        refused(check, 3, 2, 7, run(1, 0, MAX));
        refused(check, 3, 2, 7, run(2, 0, MAX - 1));
        refused(check, 3, 2, 7, run(MAX, 0, MAX));
        refused(check, 3, 2, 2, run(1, 1, MAX));
    }

    private static void secondPassesInts(Check check) {
        for (int n : new int[] {1, 2, 3}) {
            refused(check, 3, 2, 7, run(0, MAX, n));
            refused(check, 3, 2, 7, run(0, MAX - n + 1, n));
            refused(check, 3, 4, 5, run(0, MAX, n));
        }
        refused(check, 3, 2, 7, run(0, 1, MAX));
        refused(check, 3, 2, 7, run(0, 2, MAX - 1));
        refused(check, 3, 2, 7, run(0, MAX, MAX));
        refused(check, 3, 2, 7, run(MAX, MAX, MAX));
    }

    private static void everyRun(Check check) {
        for (int i = -2; i <= 5; i++) {
            for (int j = -2; j <= 7; j++) {
                SetterBench bench = new SetterBench();
                bench.lay(0, Benches.INTS, 3);
                bench.lay(1, Benches.INTS, 5);
                for (int n = -2; n <= 7; n++) {
                    boolean fits = i >= 0 && j >= 0 && n >= 0 && i + n <= 3 && j + n <= 5;
                    check.due("sweep(0, " + i + ", 1, " + j + ", " + n + ")", bench.sweep(0, i, 1, j, n), fits ? 0 : 3);
                    check.due("the other way", bench.sweep(1, j, 0, i, n), fits ? 0 : 3);
                }
            }
        }
    }

    private static void everyRunOfForty(Check check) {
        for (int start = -1; start <= 41; start++) {
            SetterBench bench = new SetterBench();
            bench.lay(0, Benches.RUBIES, 40);
            bench.lay(1, Benches.GEMS, 40);
            for (int n = -1; n <= 41; n++) {
                boolean fits = start >= 0 && n >= 0 && start + n <= 40;
                check.due("from " + start + ", " + n, bench.sweep(0, start, 1, 0, n), fits ? 0 : 3);
                check.due("to " + start + ", " + n, bench.sweep(0, 0, 1, start, n), fits ? 0 : 3);
            }
        }
    }

    private static void noneAtTheEnds(Check check) {
        SetterBench bench = new SetterBench();
        Benches.layNumbers(bench, 0, Benches.INTS, 1, 2, 3);
        Benches.layNumbers(bench, 1, Benches.INTS, 4);
        check.due("sweep(0, 3, 1, 1, 0)", bench.sweep(0, 3, 1, 1, 0), 0);
        check.due("sweep(0, 0, 1, 0, 0)", bench.sweep(0, 0, 1, 0, 0), 0);
        check.due("sweep(0, 4, 1, 1, 0)", bench.sweep(0, 4, 1, 1, 0), 3);
        check.due("sweep(0, 3, 1, 2, 0)", bench.sweep(0, 3, 1, 2, 0), 3);
        check.members("none was carried", bench, 1, 4);
        check.counts("none was carried", bench, 0, 2, 0, 0, 2, 0, 0);
    }

    private static void traysOfNone(Check check) {
        for (int sort = 2; sort <= 10; sort++) {
            SetterBench bench = new SetterBench();
            bench.lay(0, sort, 0);
            bench.lay(1, sort, 2);
            check.due("none to itself", bench.sweep(0, 0, 0, 0, 0), 0);
            check.due("none from it", bench.sweep(0, 0, 1, 2, 0), 0);
            check.due("none to it", bench.sweep(1, 2, 0, 0, 0), 0);
            check.due("one from it", bench.sweep(0, 0, 1, 0, 1), 3);
            check.due("one to it", bench.sweep(1, 0, 0, 0, 1), 3);
            check.due("one to itself", bench.sweep(0, 0, 0, 0, 1), 3);
            check.due("none from behind it", bench.sweep(0, 1, 1, 0, 0), 3);
            check.due("none to behind it", bench.sweep(1, 0, 0, 1, 0), 3);
        }
    }

    /** The GEMS on 5 take neither the plain stone nor the pearl of the STONES on 4. */
    private static void beyondAheadOfStop(Check check) {
        refused(check, 3, 4, 5, run(0, 0, 4));
        refused(check, 3, 4, 5, run(0, 1, 3));
        refused(check, 3, 4, 5, run(0, 3, 1));
        refused(check, 3, 4, 5, run(1, 1, 3));
        refused(check, 3, 4, 5, run(3, 0, 2));
        refused(check, 3, 4, 5, run(0, 0, -1));
        refused(check, 3, 4, 5, run(0, -1, 1));
        refused(check, 3, 4, 5, run(0, MAX, 1));
        refused(check, 3, 4, 5, run(1, 0, MAX));
    }

    private static void nothingIsDone(Check check) {
        refused(check, 1, 2, 0, run(0, 0, 3));
        refused(check, 2, 7, 3, run(0, 0, 2));
        refused(check, 2, 3, 5, run(0, 0, 2));
        refused(check, 3, 2, 7, run(0, 2, 3));
        refused(check, 3, 2, 2, run(0, 1, 3));
        refused(check, 3, 4, 6, run(0, 1, 4));
        refused(check, 3, 5, 4, run(0, 2, 3));
    }

    private static SetterBench twoStrands() {
        SetterBench bench = new SetterBench();
        Benches.layStones(bench, 0, Benches.STONES, Benches.RUBY, Benches.PEARL, Benches.RUBY);
        Benches.layStones(bench, 7, Benches.RUBIES, Benches.RUBY, Benches.GAP, Benches.RUBY);
        return bench;
    }

    /** Sweeps from place 0 to place 7, then takes it back. */
    private static void keptBy(Check check, int want, int i, int j, int n) {
        SetterBench bench = twoStrands();
        check.due("sweep(0, " + i + ", 7, " + j + ", " + n + ")", bench.sweep(0, i, 7, j, n), want);
        bench.put(7, 1, Benches.RUBY);
        check.due("back()", bench.back(), 3);
        check.members("as ahead of it", bench, 7, 43, 0, 53);
    }

    private static void keptWhenDone(Check check) {
        keptBy(check, 0, 0, 0, 1);
        keptBy(check, 0, 2, 2, 1);
    }

    private static void keptWhenNoneCarried(Check check) {
        keptBy(check, 0, 0, 0, 0);
        keptBy(check, 0, 3, 3, 0);
    }

    private static void keptWhenStoppedAtOnce(Check check) {
        keptBy(check, 10, 1, 0, 1);
        keptBy(check, 10, 1, 1, 2);
    }

    private static void keptWhenStopped(Check check) {
        keptBy(check, 11, 0, 0, 2);
        keptBy(check, 11, 0, 0, 3);
    }

    private static void notKeptWhenRefused(Check check) {
        SetterBench bench = twoStrands();
        bench.lay(1, Benches.LAMP, 0);
        check.due("empty", bench.sweep(0, 0, 2, 0, 1), 1);
        check.due("unlike", bench.sweep(0, 0, 1, 0, 1), 2);
        check.due("beyond", bench.sweep(0, 0, 7, 3, 1), 3);
        check.due("no place", bench.sweep(0, 0, 8, 0, 1), -1);
        check.due("back()", bench.back(), -1);
    }

    private static void allFortyKept(Check check) {
        SetterBench bench = new SetterBench();
        bench.lay(0, Benches.INTS, 40);
        bench.lay(1, Benches.INTS, 40);
        for (int i = 0; i < 40; i++) {
            bench.set(0, i, 500 + i);
            bench.set(1, i, 100 + i);
        }
        check.due("sweep(0, 0, 1, 0, 40)", bench.sweep(0, 0, 1, 0, 40), 0);
        for (int i = 0; i < 40; i++) {
            check.due("carried: member(1, " + i + ")", bench.member(1, i), 500 + i);
        }
        check.due("back()", bench.back(), 40);
        for (int i = 0; i < 40; i++) {
            check.due("back: member(1, " + i + ")", bench.member(1, i), 100 + i);
            check.due("left alone: member(0, " + i + ")", bench.member(0, i), 500 + i);
        }
    }

    private static void keptOverItself(Check check) {
        SetterBench bench = new SetterBench();
        Benches.layNumbers(bench, 0, Benches.INTS, 1, 2, 3);
        bench.sweep(0, 0, 0, 1, 2);
        check.members("swept", bench, 0, 1, 1, 2);
        check.due("back()", bench.back(), 3);
        check.members("back", bench, 0, 1, 2, 3);
    }

    private static void inPlaceOfKept(Check check) {
        SetterBench bench = new SetterBench();
        Benches.layNumbers(bench, 0, Benches.INTS, 1);
        Benches.layNumbers(bench, 1, Benches.INTS, 2);
        Benches.layNumbers(bench, 2, Benches.INTS, 3);
        bench.sweep(0, 0, 1, 0, 1);
        bench.sweep(0, 0, 2, 0, 0);
        check.due("back()", bench.back(), 1);
        check.due("back()", bench.back(), -1);
        check.members("the first sweep can't be taken back any more", bench, 1, 1);
        check.members("the second one is taken back", bench, 2, 3);
    }

    private static void otherSizes(Check check) {
        SetterBench bench = new SetterBench();
        bench.lay(0, Benches.INTS, 40);
        Benches.layNumbers(bench, 1, Benches.INTS, 7);
        bench.sweep(1, 0, 0, 39, 1);
        bench.sweep(0, 0, 1, 0, 1);
        check.due("of fewer: back()", bench.back(), 1);
        check.members("of fewer", bench, 1, 7);
        check.due("member(0, 39)", bench.member(0, 39), 7);
        bench.sweep(0, 0, 1, 0, 1);
        bench.sweep(1, 0, 0, 39, 1);
        check.due("of more: back()", bench.back(), 40);
        check.due("member(0, 39)", bench.member(0, 39), 7);
        check.members("of more", bench, 1, 0);
    }
}
