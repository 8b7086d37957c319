import java.util.Arrays;

/** Promise 11, worth: its boundary cases. */
public final class P11WorthEdgesTest {
    private static final int[] WORTH = {0, 1, 4, 20, 15};

    public static void main(String[] args) {
        Sentences worth = new Sentences();
        worth.holds("a plain one 1, a GEM 4, a RUBY 20, a PEARL 15: one alone", P11WorthEdgesTest::alone);
        worth.holds("What the stones .. are WORTH: 0 of a TRAY of none", P11WorthEdgesTest::traysOfNone);
        worth.holds("What the stones .. are WORTH: 0 of GAPS", P11WorthEdgesTest::gaps);
        worth.holds("5 for each two that are neighbours, of one sort, and ROUND: each two", P11WorthEdgesTest::eachTwo);
        worth.holds("neighbours: the first two and the last two of a TRAY", P11WorthEdgesTest::endsOfTray);
        worth.holds("neighbours: not with a GAP or another stone between", P11WorthEdgesTest::between);
        worth.holds("neighbours: the last one and the first one are none", P11WorthEdgesTest::noWrapAround);
        worth.holds("each two: three in a row are two of them", P11WorthEdgesTest::inARow);
        worth.holds("each two: every strand of five", P11WorthEdgesTest::everyStrand);
        worth.holds("a full TRAY: forty RUBIES, forty PEARLS", P11WorthEdgesTest::forty);
        worth.holds("the stones of the TRAY: of each sort of TRAY", P11WorthEdgesTest::eachTray);
        worth.holds("the stones of the TRAY on p: the first and the last place", P11WorthEdgesTest::firstAndLastPlace);
        worth.holds("NONE: no TRAY of stones lies there: NOTHING", P11WorthEdgesTest::nothing);
        worth.holds("NONE: no TRAY of stones lies there: a LAMP", P11WorthEdgesTest::lamp);
        worth.holds("NONE: no TRAY of stones lies there: TRAYS of numbers", P11WorthEdgesTest::numbers);
        worth.holds("NONE: no such place", P11WorthEdgesTest::noSuchPlace);
        worth.end();
    }

    private static void worth(Check check, int want, int... stones) {
        SetterBench bench = new SetterBench();
        Benches.layStones(bench, 0, Benches.STONES, stones);
        check.due("worth of " + Arrays.toString(stones), bench.worth(0), want);
    }

    private static void alone(Check check) {
        worth(check, 1, 1);
        worth(check, 4, 2);
        worth(check, 20, 3);
        worth(check, 15, 4);
    }

    private static void traysOfNone(Check check) {
        for (int sort = 6; sort <= 10; sort++) {
            SetterBench bench = new SetterBench();
            bench.lay(0, sort, 0);
            check.due("sort " + sort + ": worth(0)", bench.worth(0), 0);
        }
    }

    private static void gaps(Check check) {
        for (int sort = 6; sort <= 10; sort++) {
            for (int n : new int[] {1, 2, 40}) {
                SetterBench bench = new SetterBench();
                bench.lay(0, sort, n);
                check.due("sort " + sort + " of " + n + ": worth(0)", bench.worth(0), 0);
            }
        }
    }

    private static void eachTwo(Check check) {
        for (int one = 0; one <= 4; one++) {
            for (int other = 0; other <= 4; other++) {
                int more = one == other && one >= 3 ? 5 : 0;
                worth(check, WORTH[one] + WORTH[other] + more, one, other);
            }
        }
    }

    private static void endsOfTray(Check check) {
        worth(check, 45, 3, 3, 0, 0);
        worth(check, 45, 0, 0, 3, 3);
        worth(check, 35, 4, 4, 0);
        worth(check, 35, 0, 4, 4);
    }

    private static void between(Check check) {
        worth(check, 40, 3, 0, 3);
        worth(check, 41, 3, 1, 3);
        worth(check, 44, 3, 2, 3);
        worth(check, 55, 3, 4, 3);
        worth(check, 30, 4, 0, 4);
        worth(check, 50, 4, 3, 4);
    }

    private static void noWrapAround(Check check) {
        worth(check, 40, 3, 0, 0, 3);
        worth(check, 30, 4, 0, 0, 0, 4);
        worth(check, 20, 3);
    }

    private static void inARow(Check check) {
        worth(check, 70, 3, 3, 3);
        worth(check, 55, 4, 4, 4);
        worth(check, 95, 3, 3, 3, 3);
        worth(check, 80, 3, 3, 4, 4);
    }

    private static void everyStrand(Check check) {
        for (int strand = 0; strand < 3125; strand++) {
            int[] stones = new int[5];
            int want = 0;
            int rest = strand;
            for (int i = 0; i < 5; i++) {
                stones[i] = rest % 5;
                rest /= 5;
                want += WORTH[stones[i]];
                want += i > 0 && stones[i] == stones[i - 1] && stones[i] >= 3 ? 5 : 0;
            }
            worth(check, want, stones);
        }
    }

    private static void forty(Check check) {
        int[] rubies = new int[40];
        int[] pearls = new int[40];
        Arrays.fill(rubies, Benches.RUBY);
        Arrays.fill(pearls, Benches.PEARL);
        worth(check, 40 * 20 + 39 * 5, rubies);
        worth(check, 40 * 15 + 39 * 5, pearls);
        rubies[39] = Benches.PEARL;
        worth(check, 39 * 20 + 15 + 38 * 5, rubies);
    }

    private static void eachTray(Check check) {
        int[][] stones = {{1, 2, 3, 3, 4, 4}, {2, 3, 3}, {3, 3, 0, 3}, {4, 4, 0, 4}, {3, 3, 4, 4}};
        int[] wants = {85, 49, 65, 50, 80};
        for (int sort = 6; sort <= 10; sort++) {
            SetterBench bench = new SetterBench();
            Benches.layStones(bench, 0, sort, stones[sort - 6]);
            check.due("sort " + sort + ": worth(0)", bench.worth(0), wants[sort - 6]);
        }
    }

    private static void firstAndLastPlace(Check check) {
        SetterBench bench = new SetterBench();
        Benches.layStones(bench, 0, Benches.STONES, Benches.RUBY);
        Benches.layStones(bench, 7, Benches.STONES, Benches.PEARL);
        check.due("worth(0)", bench.worth(0), 20);
        check.due("worth(7)", bench.worth(7), 15);
    }

    private static void nothing(Check check) {
        for (int p = 0; p < 8; p++) {
            check.due("worth(" + p + ")", new SetterBench().worth(p), -1);
        }
    }

    private static void lamp(Check check) {
        SetterBench bench = new SetterBench();
        bench.lay(0, Benches.LAMP, 3);
        bench.light(0);
        check.due("worth(0)", bench.worth(0), -1);
    }

    private static void numbers(Check check) {
        for (int sort = 2; sort <= 5; sort++) {
            for (int n : new int[] {0, 1, 40}) {
                SetterBench bench = new SetterBench();
                bench.lay(0, sort, n);
                bench.set(0, 0, 13);
                check.due("sort " + sort + " of " + n + ": worth(0)", bench.worth(0), -1);
            }
        }
    }

    private static void noSuchPlace(Check check) {
        for (int p : Benches.outside(0, 7)) {
            Refusals.unchanged(check, "worth(" + p + ")", -1, bench -> bench.worth(p));
        }
    }
}
