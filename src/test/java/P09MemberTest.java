/** Promise 9: member. */
public final class P09MemberTest {
    private static final Check CHECK = new Check();

    public static void main(String[] args) {
        numbersAndStones();
        noneSuch();
        CHECK.end();
    }

    private static void numbersAndStones() {
        SetterBench bench = new SetterBench();
        Benches.layNumbers(bench, 0, Benches.INTS, -1, Benches.MIN, Benches.MAX);
        CHECK.members("ints", bench, 0, -1, Benches.MIN, Benches.MAX);
        Benches.layNumbers(bench, 1, Benches.LONGS, -1, Benches.MIN);
        CHECK.members("longs", bench, 1, -1000003, -2147490090450944L);
        Benches.layNumbers(bench, 2, Benches.BYTES, 255, 128);
        CHECK.members("bytes", bench, 2, -1, -128);
        Benches.layNumbers(bench, 3, Benches.FLAGS, 3, 2);
        CHECK.members("flags", bench, 3, 1, 0);
        Benches.layStones(bench, 4, Benches.STONES, Benches.PLAIN, Benches.GAP, Benches.GEM, Benches.RUBY, Benches.PEARL);
        CHECK.members("stones", bench, 4, 11, 0, 22, 33, 44);
        bench.lay(5, Benches.ROUNDS, 2);
        bench.sweep(4, 3, 5, 0, 2);
        CHECK.members("carried stones keep number and sort", bench, 5, 33, 44);
    }

    private static void noneSuch() {
        SetterBench bench = new SetterBench();
        bench.lay(1, Benches.LAMP, 0);
        for (int i : new int[] {-1, 0, 1, Benches.MIN, Benches.MAX}) {
            CHECK.due("member(0, " + i + ")", bench.member(0, i), -1);
            CHECK.due("member(1, " + i + ")", bench.member(1, i), -1);
            for (int p : Benches.NO_PLACES) {
                CHECK.due("member(" + p + ", " + i + ")", bench.member(p, i), -1);
            }
        }
        for (int sort = 2; sort <= 10; sort++) {
            bench.lay(2, sort, 2);
            for (int i : new int[] {-1, 2, Benches.MIN, Benches.MAX}) {
                CHECK.due("sort " + sort + ": member(2, " + i + ")", bench.member(2, i), -1);
            }
        }
    }
}
