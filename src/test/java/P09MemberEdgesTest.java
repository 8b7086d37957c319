/** Promise 9, member: its boundary cases. */
public final class P09MemberEdgesTest {
    public static void main(String[] args) {
        Sentences member = new Sentences();
        member.holds("MEMBER i: the first and the last of each TRAY", P09MemberEdgesTest::firstAndLast);
        member.holds("the number: the least and the greatest", P09MemberEdgesTest::numbers);
        member.holds("(of FLAGS 1 or 0)", P09MemberEdgesTest::flags);
        member.holds("of a stone 10 times its number, and its sort", P09MemberEdgesTest::stones);
        member.holds("of a stone: the same wherever it was carried to", P09MemberEdgesTest::carriedStones);
        member.holds("0 of a GAP", P09MemberEdgesTest::gaps);
        member.holds("-1 when there is none such: i below 0 or not below how many", P09MemberEdgesTest::noSuchMember);
        member.holds("-1 when there is none such: TRAYS of none", P09MemberEdgesTest::traysOfNone);
        member.holds("-1 when there is none such: NOTHING", P09MemberEdgesTest::nothing);
        member.holds("-1 when there is none such: a LAMP", P09MemberEdgesTest::lamp);
        member.holds("-1 when there is none such: no such place", P09MemberEdgesTest::noSuchPlace);
        member.holds("(numbers may be -1, too)", P09MemberEdgesTest::minusOne);
        member.holds("member() changes nothing", P09MemberEdgesTest::changesNothing);
        member.end();
    }

    private static void firstAndLast(Check check) {
        for (int n : new int[] {1, 2, 40}) {
            SetterBench bench = new SetterBench();
            bench.lay(0, Benches.INTS, n);
            bench.lay(7, Benches.STONES, n);
            bench.set(0, 0, 5);
            bench.set(0, n - 1, 6);
            bench.put(7, 0, Benches.PLAIN);
            bench.put(7, n - 1, Benches.PEARL);
            check.due("of " + n + ": member(0, 0)", bench.member(0, 0), n == 1 ? 6 : 5);
            check.due("of " + n + ": member(0, " + (n - 1) + ")", bench.member(0, n - 1), 6);
            check.due("of " + n + ": member(7, 0)", bench.member(7, 0), n == 1 ? 24 : 11);
            check.due("of " + n + ": member(7, " + (n - 1) + ")", bench.member(7, n - 1), 24);
        }
    }

    private static void numbers(Check check) {
        SetterBench bench = new SetterBench();
        Benches.layNumbers(bench, 0, Benches.INTS, Benches.MIN, Benches.MAX);
        Benches.layNumbers(bench, 1, Benches.LONGS, Benches.MIN, Benches.MAX);
        Benches.layNumbers(bench, 2, Benches.BYTES, 128, 127);
        check.members("ints", bench, 0, -2147483648, 2147483647);
        check.members("longs", bench, 1, -2147490090450944L, 2147490089450941L);
        check.members("bytes", bench, 2, -128, 127);
    }

    private static void flags(Check check) {
        SetterBench bench = new SetterBench();
        Benches.layNumbers(bench, 0, Benches.FLAGS, 0, 1, 2, -1);
        check.members("flags", bench, 0, 0, 1, 0, 1);
    }

    private static void stones(Check check) {
        SetterBench bench = new SetterBench();
        Benches.layStones(bench, 0, Benches.STONES, 1, 2, 3, 4, 4, 3, 2, 1, 1, 2, 3, 4);
        check.members("stones 1 to 12", bench, 0, 11, 22, 33, 44, 54, 63, 72, 81, 91, 102, 113, 124);
    }

    private static void carriedStones(Check check) {
        SetterBench bench = new SetterBench();
        Benches.layStones(bench, 0, Benches.RUBIES, Benches.RUBY, Benches.RUBY);
        for (int sort : new int[] {Benches.STONES, Benches.GEMS, Benches.RUBIES, Benches.ROUNDS}) {
            bench.lay(1, sort, 2);
            bench.sweep(0, 1, 1, 0, 1);
            check.members("in sort " + sort, bench, 1, 23, 0);
        }
        check.members("in its first tray", bench, 0, 13, 23);
    }

    private static void gaps(Check check) {
        for (int sort = 6; sort <= 10; sort++) {
            SetterBench bench = new SetterBench();
            bench.lay(0, sort, 40);
            for (int i = 0; i < 40; i++) {
                check.due("sort " + sort + ": member(0, " + i + ")", bench.member(0, i), 0);
            }
        }
    }

    private static void noSuchMember(Check check) {
        for (int sort = 2; sort <= 10; sort++) {
            for (int n : new int[] {1, 3, 40}) {
                SetterBench bench = new SetterBench();
                bench.lay(0, sort, n);
                for (int i : Benches.outside(0, n - 1)) {
                    check.due("sort " + sort + " of " + n + ": member(0, " + i + ")", bench.member(0, i), -1);
                }
            }
        }
    }

    private static void traysOfNone(Check check) {
        for (int sort = 2; sort <= 10; sort++) {
            SetterBench bench = new SetterBench();
            bench.lay(0, sort, 0);
            for (int i : new int[] {-1, 0, 1, 40, Benches.MIN, Benches.MAX}) {
                check.due("sort " + sort + ": member(0, " + i + ")", bench.member(0, i), -1);
            }
        }
    }

    private static void nothing(Check check) {
        for (int p = 0; p < 8; p++) {
            for (int i : new int[] {-1, 0, 1, 39, Benches.MIN, Benches.MAX}) {
                check.due("member(" + p + ", " + i + ")", new SetterBench().member(p, i), -1);
            }
        }
    }

    private static void lamp(Check check) {
        SetterBench bench = new SetterBench();
        bench.lay(0, Benches.LAMP, 5);
        bench.light(0);
        for (int i : new int[] {-1, 0, 1, 39, Benches.MIN, Benches.MAX}) {
            check.due("member(0, " + i + ")", bench.member(0, i), -1);
        }
    }

    private static void noSuchPlace(Check check) {
        SetterBench bench = new SetterBench();
        for (int p = 0; p < 8; p++) {
            bench.lay(p, Benches.INTS, 1);
        }
        for (int p : Benches.outside(0, 7)) {
            for (int i : new int[] {-1, 0, Benches.MIN, Benches.MAX}) {
                check.due("member(" + p + ", " + i + ")", bench.member(p, i), -1);
            }
        }
    }

    private static void minusOne(Check check) {
        SetterBench bench = new SetterBench();
        Benches.layNumbers(bench, 0, Benches.INTS, -1);
        Benches.layNumbers(bench, 1, Benches.BYTES, 255);
        check.members("ints", bench, 0, -1);
        check.members("bytes", bench, 1, -1);
    }

    private static void changesNothing(Check check) {
        for (int i : new int[] {0, 1, -1, 4, Benches.MAX}) {
            int[] places = {0, 1, 8, -1};
            for (int p : places) {
                Refusals.unchanged(check, "member(" + p + ", " + i + ")", -1, bench -> bench.member(p, i));
            }
        }
    }
}
