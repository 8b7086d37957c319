import java.util.Arrays;

/** Promise 6, sweep: the boundary cases of what a SWEEP carries, over itself too, and of where it stops. */
public final class P06CarriedEdgesTest {
    /** The sorts of stones that the trays of sorts 6 to 10 do not take. */
    private static final String[] NOT_TAKEN = {"", "14", "124", "123", "12"};

    public static void main(String[] args) {
        Sentences sweep = new Sentences();
        for (int sort = 2; sort <= 10; sort++) {
            int tray = sort;
            sweep.holds("as they were ahead of the SWEEP, where the TRAY lies over itself: sort " + sort,
                check -> everyRunOverItself(check, tray, 0));
            sweep.holds("as they were ahead of the SWEEP, through two places of the same TRAY: sort " + sort,
                check -> everyRunOverItself(check, tray, 7));
        }
        sweep.holds("over itself: forty MEMBERS, by one up and by one down", P06CarriedEdgesTest::fortyOverItself);
        sweep.holds("MEMBERS are carried: all forty, and none", P06CarriedEdgesTest::allForty);
        sweep.holds("MEMBERS are carried: only those of the run", P06CarriedEdgesTest::onlyTheRun);
        sweep.holds("numbers of a full range are carried whole", P06CarriedEdgesTest::wholeNumbers);
        for (int sort = 7; sort <= 10; sort++) {
            stops(sweep, sort);
        }
        sweep.holds("it stops: at the first of forty, and at the last", P06CarriedEdgesTest::stopsInForty);
        sweep.holds("at the first stone that .. does not take: those behind it are not carried",
            P06CarriedEdgesTest::noneBehind);
        sweep.holds("the first stone: of the run, not ahead of it or behind it", P06CarriedEdgesTest::outsideTheRun);
        sweep.holds("a GAP does not stop it", P06CarriedEdgesTest::gapsGo);
        sweep.holds("the TRAY that takes any stones stops none", P06CarriedEdgesTest::anyStonesGo);
        sweep.holds("what counts is the stone, not the TRAY that it lies in", P06CarriedEdgesTest::traysDoNotMatter);
        sweep.end();
    }

    private static void stops(Sentences sweep, int tray) {
        String stones = NOT_TAKEN[tray - 6];
        for (int k = 0; k < stones.length(); k++) {
            int stone = stones.charAt(k) - '0';
            sweep.holds("it stops: 10 and how many were carried, which stay: tray " + tray + ", stone " + stone,
                check -> stopsAtEach(check, tray, stone));
        }
    }

    /** Lays a tray of six members that differ as far as its sort allows, the first of stones being a GAP. */
    private static long[] layDifferent(SetterBench bench, int p, int sort) {
        bench.lay(p, sort, 6);
        long[] members = new long[6];
        int stone = sort == Benches.PEARLS ? Benches.PEARL : Benches.RUBY;
        for (int i = 0; i < 6; i++) {
            if (sort >= Benches.STONES) {
                bench.put(p, i, i == 0 ? Benches.GAP : stone);
            } else {
                // Six flags can't all differ; this row of them is at least no repetition of a shorter one.
                bench.set(p, i, sort == Benches.FLAGS ? 0b011010 >> i : 11 * i - 20);
            }
            members[i] = bench.member(p, i);
        }
        return members;
    }

    private static void everyRunOverItself(Check check, int sort, int place) {
        for (int i = 0; i <= 6; i++) {
            for (int j = 0; j <= 6; j++) {
                for (int n = 0; i + n <= 6 && j + n <= 6; n++) {
                    SetterBench bench = new SetterBench();
                    long[] ahead = layDifferent(bench, 0, sort);
                    bench.share(0, place);
                    long[] want = Arrays.copyOf(ahead, 6);
                    for (int k = 0; k < n; k++) {
                        want[j + k] = ahead[i + k];
                    }
                    String call = "sweep(0, " + i + ", " + place + ", " + j + ", " + n + ")";
                    check.due(call, bench.sweep(0, i, place, j, n), 0);
                    check.members(call, bench, 0, want);
                    check.due(call + ", then back()", bench.back(), 6);
                    check.members(call + ", then back()", bench, place, ahead);
                }
            }
        }
    }

    private static void fortyOverItself(Check check) {
        SetterBench up = new SetterBench();
        SetterBench down = new SetterBench();
        up.lay(0, Benches.INTS, 40);
        down.lay(0, Benches.INTS, 40);
        for (int i = 0; i < 40; i++) {
            up.set(0, i, 100 + i);
            down.set(0, i, 100 + i);
        }
        check.due("sweep(0, 0, 0, 1, 39)", up.sweep(0, 0, 0, 1, 39), 0);
        check.due("sweep(0, 1, 0, 0, 39)", down.sweep(0, 1, 0, 0, 39), 0);
        for (int i = 0; i < 40; i++) {
            check.due("up: member(0, " + i + ")", up.member(0, i), i == 0 ? 100 : 99 + i);
            check.due("down: member(0, " + i + ")", down.member(0, i), i == 39 ? 139 : 101 + i);
        }
    }

    private static void allForty(Check check) {
        SetterBench bench = new SetterBench();
        bench.lay(0, Benches.STONES, 40);
        bench.lay(1, Benches.GEMS, 40);
        for (int i = 0; i < 40; i++) {
            bench.put(0, i, 2 + i % 2);
        }
        check.due("none: sweep(0, 40, 1, 40, 0)", bench.sweep(0, 40, 1, 40, 0), 0);
        check.due("count(6)", bench.count(6), 40);
        check.due("worth(1)", bench.worth(1), 0);
        check.due("all: sweep(0, 0, 1, 0, 40)", bench.sweep(0, 0, 1, 0, 40), 0);
        check.due("count(6)", bench.count(6), 80);
        for (int i = 0; i < 40; i++) {
            check.due("member(1, " + i + ")", bench.member(1, i), 10 * (i + 1) + 2 + i % 2);
            check.due("member(0, " + i + ")", bench.member(0, i), 10 * (i + 1) + 2 + i % 2);
        }
    }

    private static void onlyTheRun(Check check) {
        for (int i = 0; i <= 4; i++) {
            for (int j = 0; j <= 5; j++) {
                for (int n = 0; i + n <= 4 && j + n <= 5; n++) {
                    SetterBench bench = new SetterBench();
                    Benches.layNumbers(bench, 0, Benches.INTS, 1, 2, 3, 4);
                    Benches.layNumbers(bench, 1, Benches.INTS, 50, 51, 52, 53, 54);
                    String call = "sweep(0, " + i + ", 1, " + j + ", " + n + ")";
                    check.due(call, bench.sweep(0, i, 1, j, n), 0);
                    for (int k = 0; k < 5; k++) {
                        boolean inRun = k >= j && k < j + n;
                        check.due(call + ": member(1, " + k + ")", bench.member(1, k), inRun ? i + k - j + 1 : 50 + k);
                    }
                    check.members(call, bench, 0, 1, 2, 3, 4);
                }
            }
        }
    }

    private static void wholeNumbers(Check check) {
        SetterBench bench = new SetterBench();
        Benches.layNumbers(bench, 0, Benches.LONGS, Benches.MAX, Benches.MIN, -1);
        bench.lay(1, Benches.LONGS, 3);
        bench.sweep(0, 0, 1, 0, 3);
        check.members("longs", bench, 1, 2147490089450941L, -2147490090450944L, -1000003);
        Benches.layNumbers(bench, 2, Benches.INTS, Benches.MAX, Benches.MIN);
        bench.lay(3, Benches.INTS, 2);
        bench.sweep(2, 0, 3, 0, 2);
        check.members("ints", bench, 3, Benches.MAX, Benches.MIN);
        Benches.layNumbers(bench, 4, Benches.BYTES, 127, -128);
        bench.lay(5, Benches.BYTES, 2);
        bench.sweep(4, 0, 5, 0, 2);
        check.members("bytes", bench, 5, 127, -128);
        Benches.layNumbers(bench, 6, Benches.FLAGS, 1, 0);
        bench.lay(7, Benches.FLAGS, 2);
        bench.sweep(6, 0, 7, 0, 2);
        check.members("flags", bench, 7, 1, 0);
    }

    /** Five stones, all taken but that at k; the second tray begins with five GAPS, so each carried stone is seen. */
    private static void stopsAtEach(Check check, int tray, int stone) {
        int taken = tray == Benches.PEARLS ? Benches.PEARL : Benches.RUBY;
        for (int k = 0; k < 5; k++) {
            SetterBench bench = new SetterBench();
            bench.lay(0, Benches.STONES, 5);
            for (int i = 0; i < 5; i++) {
                bench.put(0, i, i == k ? stone : taken);
            }
            bench.lay(1, tray, 6);
            check.due("stops at " + k, bench.sweep(0, 0, 1, 1, 5), 10 + k);
            check.counts("stops at " + k, bench, 5, 5, 0, 0, 0, 1, 5 + k);
            for (int i = 0; i < 6; i++) {
                boolean carried = i >= 1 && i <= k;
                check.due("stops at " + k + ": member(1, " + i + ")", bench.member(1, i), carried ? 10 * i + taken : 0);
            }
        }
    }

    private static void stopsInForty(Check check) {
        for (int k : new int[] {0, 1, 38, 39}) {
            SetterBench bench = new SetterBench();
            bench.lay(0, Benches.STONES, 40);
            for (int i = 0; i < 40; i++) {
                bench.put(0, i, i == k ? Benches.PLAIN : Benches.PEARL);
            }
            bench.lay(1, Benches.PEARLS, 40);
            check.due("stops at " + k, bench.sweep(0, 0, 1, 0, 40), 10 + k);
            check.due("count(6)", bench.count(6), 40 + k);
            for (int i = 0; i < 40; i++) {
                check.due("stops at " + k + ": member(1, " + i + ")", bench.member(1, i), i < k ? 10 * (i + 1) + 4 : 0);
            }
        }
    }

    private static void noneBehind(Check check) {
        SetterBench bench = new SetterBench();
        Benches.layStones(bench, 0, Benches.STONES, Benches.GEM, Benches.PLAIN, Benches.GAP, Benches.PEARL, Benches.RUBY);
        Benches.layStones(bench, 1, Benches.GEMS, Benches.RUBY, Benches.RUBY, Benches.RUBY, Benches.RUBY, Benches.RUBY);
        check.due("sweep(0, 0, 1, 0, 5)", bench.sweep(0, 0, 1, 0, 5), 11);
        check.members("one", bench, 1, 12, 63, 73, 83, 93);
    }

    private static void outsideTheRun(Check check) {
        SetterBench bench = new SetterBench();
        Benches.layStones(bench, 0, Benches.STONES, Benches.PEARL, Benches.RUBY, Benches.RUBY, Benches.PEARL);
        bench.lay(1, Benches.RUBIES, 4);
        check.due("between them", bench.sweep(0, 1, 1, 0, 2), 0);
        check.members("between them", bench, 1, 23, 33, 0, 0);
        check.due("none, where one lies", bench.sweep(0, 0, 1, 0, 0), 0);
        check.due("none, where one lies", bench.sweep(0, 3, 1, 0, 0), 0);
        check.due("up to the last one", bench.sweep(0, 1, 1, 1, 3), 12);
        check.members("up to the last one", bench, 1, 23, 23, 33, 0);
        check.due("from the first one", bench.sweep(0, 0, 1, 1, 3), 10);
        check.members("from the first one", bench, 1, 23, 23, 33, 0);
    }

    private static void gapsGo(Check check) {
        for (int tray = 6; tray <= 10; tray++) {
            int stone = tray == Benches.PEARLS ? Benches.PEARL : Benches.RUBY;
            SetterBench bench = new SetterBench();
            bench.lay(0, Benches.STONES, 3);
            bench.put(0, 1, stone);
            Benches.layStones(bench, 1, tray, stone, stone, stone);
            check.due("tray " + tray, bench.sweep(0, 0, 1, 0, 3), 0);
            check.members("tray " + tray, bench, 1, 0, 10 + stone, 0);
            check.due("count(6)", bench.count(6), 7);
        }
    }

    private static void anyStonesGo(Check check) {
        SetterBench bench = new SetterBench();
        Benches.layStones(bench, 0, Benches.STONES, 4, 3, 2, 1, 0);
        bench.lay(1, Benches.STONES, 5);
        check.due("sweep(0, 0, 1, 0, 5)", bench.sweep(0, 0, 1, 0, 5), 0);
        check.members("all", bench, 1, 14, 23, 32, 41, 0);
    }

    private static void traysDoNotMatter(Check check) {
        SetterBench bench = new SetterBench();
        Benches.layStones(bench, 0, Benches.GEMS, Benches.RUBY, Benches.RUBY, Benches.GEM);
        bench.lay(1, Benches.ROUNDS, 3);
        check.due("gems to round ones", bench.sweep(0, 0, 1, 0, 3), 12);
        check.members("rubies are both", bench, 1, 13, 23, 0);
        bench.lay(2, Benches.RUBIES, 3);
        check.due("round ones to rubies", bench.sweep(1, 0, 2, 0, 3), 0);
        check.due("round ones to gems", bench.sweep(1, 1, 0, 0, 2), 0);
        check.members("a ruby and a gap came back", bench, 0, 23, 0, 32);
        bench.lay(3, Benches.PEARLS, 3);
        check.due("rubies to pearls", bench.sweep(2, 0, 3, 0, 3), 10);
        check.due("the gap of rubies to pearls", bench.sweep(2, 2, 3, 0, 1), 0);
    }
}
