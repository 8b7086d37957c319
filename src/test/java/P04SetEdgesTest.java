/** Promise 4, set: its boundary cases. */
public final class P04SetEdgesTest {
    public static void main(String[] args) {
        Sentences set = new Sentences();
        set.holds("becomes a number: v; the least and the greatest int", P04SetEdgesTest::ints);
        set.holds("of LONGS v times 1000003; beyond the ints", P04SetEdgesTest::longs);
        set.holds("of BYTES v's lowest eight bits, with a sign", P04SetEdgesTest::bytes);
        set.holds("of FLAGS v's lowest bit", P04SetEdgesTest::flags);
        set.holds("MEMBER i: the first and the last, and no other one", P04SetEdgesTest::firstAndLast);
        set.holds("on p: the first and the last place", P04SetEdgesTest::firstAndLastPlace);
        set.holds("else nothing is done: 1 NOTHING lies there", P04SetEdgesTest::nothing);
        set.holds("else nothing is done: 2 what lies there is no TRAY of numbers: a LAMP", P04SetEdgesTest::lamp);
        set.holds("else nothing is done: 2 .. no TRAY of numbers: TRAYS of stones", P04SetEdgesTest::stones);
        set.holds("else nothing is done: 3 there is no such MEMBER", P04SetEdgesTest::noSuchMember);
        set.holds("3 there is no such MEMBER: of a TRAY of none", P04SetEdgesTest::noneAtAll);
        set.holds("3 there is no such MEMBER: of a TRAY of forty", P04SetEdgesTest::behindForty);
        set.holds("NONE no such place", P04SetEdgesTest::noSuchPlace);
        set.holds("set is no SWEEP: it is not counted and KEEPS nothing", P04SetEdgesTest::noSweep);
        set.end();
    }

    private static void becomes(Check check, int sort, int v, long want) {
        SetterBench bench = new SetterBench();
        bench.lay(0, sort, 1);
        check.due("set(0, 0, " + v + ")", bench.set(0, 0, v), 0);
        check.due("sort " + sort + ", set to " + v, bench.member(0, 0), want);
    }

    private static void ints(Check check) {
        for (int v : new int[] {0, 1, -1, 128, -129, 65536, Benches.MAX, Benches.MAX - 1, Benches.MIN, Benches.MIN + 1}) {
            becomes(check, Benches.INTS, v, v);
        }
    }

    private static void longs(Check check) {
        becomes(check, Benches.LONGS, 0, 0);
        becomes(check, Benches.LONGS, 1, 1000003);
        becomes(check, Benches.LONGS, -1, -1000003);
        becomes(check, Benches.LONGS, 2147, 2147006441);
        becomes(check, Benches.LONGS, 2148, 2148006444L);
        becomes(check, Benches.LONGS, -2148, -2148006444L);
        becomes(check, Benches.LONGS, Benches.MAX, 2147490089450941L);
        becomes(check, Benches.LONGS, Benches.MIN, -2147490090450944L);
    }

    private static void bytes(Check check) {
        int[] values = {127, 128, 129, 255, 256, 257, 383, 384, -1, -127, -128, -129, -255, -256, -257};
        int[] wants = {127, -128, -127, -1, 0, 1, 127, -128, -1, -127, -128, 127, 1, 0, -1};
        for (int k = 0; k < values.length; k++) {
            becomes(check, Benches.BYTES, values[k], wants[k]);
        }
        becomes(check, Benches.BYTES, Benches.MAX, -1);
        becomes(check, Benches.BYTES, Benches.MIN, 0);
    }

    private static void flags(Check check) {
        int[] values = {0, 1, 2, 3, 254, 255, 256, -1, -2, -3, Benches.MAX, Benches.MAX - 1, Benches.MIN, Benches.MIN + 1};
        int[] wants = {0, 1, 0, 1, 0, 1, 0, 1, 0, 1, 1, 0, 0, 1};
        for (int k = 0; k < values.length; k++) {
            becomes(check, Benches.FLAGS, values[k], wants[k]);
        }
    }

    private static void firstAndLast(Check check) {
        for (int n : new int[] {1, 2, 40}) {
            for (int i : new int[] {0, n - 1}) {
                SetterBench bench = new SetterBench();
                bench.lay(4, Benches.FLAGS, n);
                check.due("set(4, " + i + ", 1)", bench.set(4, i, 1), 0);
                for (int k = 0; k < n; k++) {
                    check.due("of " + n + ": member(4, " + k + ")", bench.member(4, k), k == i ? 1 : 0);
                }
            }
        }
    }

    private static void firstAndLastPlace(Check check) {
        SetterBench bench = new SetterBench();
        bench.lay(0, Benches.INTS, 1);
        bench.lay(7, Benches.INTS, 1);
        check.due("set(0, 0, 5)", bench.set(0, 0, 5), 0);
        check.due("set(7, 0, 6)", bench.set(7, 0, 6), 0);
        check.members("on 0", bench, 0, 5);
        check.members("on 7", bench, 7, 6);
    }

    private static void nothing(Check check) {
        for (int i : Benches.outside(0, 0)) {
            Refusals.unchanged(check, "set(0, " + i + ", 1)", 1, bench -> bench.set(0, i, 1));
        }
        Refusals.unchanged(check, "set(0, 0, 1)", 1, bench -> bench.set(0, 0, 1));
    }

    private static void lamp(Check check) {
        for (int i : Benches.outside(0, 0)) {
            Refusals.unchanged(check, "set(1, " + i + ", 1)", 2, bench -> bench.set(1, i, 1));
        }
        Refusals.unchanged(check, "set(1, 0, 1)", 2, bench -> bench.set(1, 0, 1));
    }

    private static void stones(Check check) {
        for (int i : Benches.outside(0, 3)) {
            Refusals.unchanged(check, "set(4, " + i + ", 1)", 2, bench -> bench.set(4, i, 1));
            Refusals.unchanged(check, "set(5, " + i + ", 0)", 2, bench -> bench.set(5, i, 0));
        }
        for (int sort = 6; sort <= 10; sort++) {
            for (int n : new int[] {0, 1, 40}) {
                SetterBench bench = new SetterBench();
                bench.lay(0, sort, n);
                check.due("sort " + sort + " of " + n + ": set(0, 0, 11)", bench.set(0, 0, 11), 2);
                check.due("member(0, 0)", bench.member(0, 0), n == 0 ? -1 : 0);
            }
        }
    }

    private static void noSuchMember(Check check) {
        for (int i : Benches.outside(0, 2)) {
            Refusals.unchanged(check, "set(2, " + i + ", 4)", 3, bench -> bench.set(2, i, 4));
        }
        for (int sort = 2; sort <= 5; sort++) {
            for (int i : Benches.outside(0, 2)) {
                SetterBench bench = new SetterBench();
                bench.lay(0, sort, 3);
                check.due("sort " + sort + ": set(0, " + i + ", 1)", bench.set(0, i, 1), 3);
                check.members("refused", bench, 0, 0, 0, 0);
            }
        }
    }

    private static void noneAtAll(Check check) {
        for (int sort = 2; sort <= 5; sort++) {
            for (int i : new int[] {-1, 0, 1, Benches.MIN, Benches.MAX}) {
                SetterBench bench = new SetterBench();
                bench.lay(0, sort, 0);
                check.due("sort " + sort + ": set(0, " + i + ", 1)", bench.set(0, i, 1), 3);
            }
        }
    }

    private static void behindForty(Check check) {
        for (int sort = 2; sort <= 5; sort++) {
            SetterBench bench = new SetterBench();
            bench.lay(0, sort, 40);
            for (int i : Benches.outside(0, 39)) {
                check.due("sort " + sort + ": set(0, " + i + ", 1)", bench.set(0, i, 1), 3);
            }
            for (int i = 0; i < 40; i++) {
                check.due("member(0, " + i + ")", bench.member(0, i), 0);
            }
            check.due("set(0, 39, 1)", bench.set(0, 39, 1), 0);
        }
    }

    private static void noSuchPlace(Check check) {
        for (int p : Benches.outside(0, 7)) {
            Refusals.unchanged(check, "set(" + p + ", 0, 1)", -1, bench -> bench.set(p, 0, 1));
            Refusals.unchanged(check, "set(" + p + ", -1, 1)", -1, bench -> bench.set(p, -1, 1));
        }
    }

    private static void noSweep(Check check) {
        SetterBench bench = new SetterBench();
        bench.lay(0, Benches.INTS, 1);
        for (int p : new int[] {0, 1, 8}) {
            bench.set(p, 0, 1);
            bench.set(p, 1, 1);
        }
        check.counts("set alone", bench, 0, 0, 0, 0, 0, 0, 0);
        check.due("back()", bench.back(), -1);
    }
}
