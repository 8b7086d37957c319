/** Promise 2: lay. */
public final class P02LayTest {
    private static final Check CHECK = new Check();

    public static void main(String[] args) {
        everySort();
        sizes();
        refused();
        newThingInPlaceOfOld();
        CHECK.end();
    }

    private static void everySort() {
        for (int sort = 2; sort <= 10; sort++) {
            SetterBench bench = new SetterBench();
            CHECK.due("lay(7, " + sort + ", 3)", bench.lay(7, sort, 3), true);
            CHECK.due("thing(7, 0)", bench.thing(7, 0), sort);
            CHECK.members("new tray of sort " + sort, bench, 7, 0, 0, 0);
            CHECK.due("member(7, 3)", bench.member(7, 3), -1);
        }
    }

    private static void sizes() {
        SetterBench bench = new SetterBench();
        for (int sort = 2; sort <= 10; sort++) {
            CHECK.due("lay(0, " + sort + ", 0)", bench.lay(0, sort, 0), true);
            CHECK.due("thing(0, 1)", bench.thing(0, 1), 0);
            CHECK.due("member(0, 0)", bench.member(0, 0), -1);
            CHECK.due("lay(0, " + sort + ", 40)", bench.lay(0, sort, 40), true);
            CHECK.due("thing(0, 1)", bench.thing(0, 1), 40);
            CHECK.due("member(0, 39)", bench.member(0, 39), 0);
            CHECK.due("member(0, 40)", bench.member(0, 40), -1);
            for (int n : new int[] {-1, 41, Benches.MIN, Benches.MAX}) {
                CHECK.due("lay(0, " + sort + ", " + n + ")", bench.lay(0, sort, n), false);
            }
            CHECK.due("thing(0, 1) after refusals", bench.thing(0, 1), 40);
        }
        for (int n : new int[] {-1, 41, Benches.MIN, Benches.MAX}) {
            CHECK.due("a lamp asks no n: lay(0, 1, " + n + ")", bench.lay(0, 1, n), true);
            CHECK.due("thing(0, 0)", bench.thing(0, 0), 1);
            CHECK.due("nor does nothing: lay(0, 0, " + n + ")", bench.lay(0, 0, n), true);
            CHECK.due("thing(0, 0)", bench.thing(0, 0), 0);
        }
    }

    private static void refused() {
        SetterBench bench = new SetterBench();
        bench.lay(0, Benches.INTS, 2);
        bench.lay(7, Benches.LAMP, 0);
        for (int p : Benches.NO_PLACES) {
            for (int sort : new int[] {0, 1, 2, 6}) {
                CHECK.due("lay(" + p + ", " + sort + ", 1)", bench.lay(p, sort, 1), false);
            }
        }
        for (int sort : new int[] {-1, 11, Benches.MIN, Benches.MAX}) {
            CHECK.due("lay(0, " + sort + ", 1)", bench.lay(0, sort, 1), false);
        }
        CHECK.due("thing(0, 0)", bench.thing(0, 0), 2);
        CHECK.due("thing(0, 1)", bench.thing(0, 1), 2);
        CHECK.due("thing(7, 0)", bench.thing(7, 0), 1);
    }

    private static void newThingInPlaceOfOld() {
        SetterBench bench = new SetterBench();
        Benches.layNumbers(bench, 3, Benches.INTS, 5, 6);
        bench.share(3, 4);
        bench.lay(3, Benches.INTS, 2);
        CHECK.members("new one", bench, 3, 0, 0);
        CHECK.members("old one, elsewhere", bench, 4, 5, 6);
        bench.lay(5, Benches.LAMP, 0);
        bench.light(5);
        bench.lay(5, Benches.LAMP, 0);
        CHECK.due("a new lamp was never lit: light(5)", bench.light(5), 1);
        bench.lay(5, 0, 0);
        CHECK.due("thing(5, 0)", bench.thing(5, 0), 0);
        CHECK.due("light(5)", bench.light(5), -1);
    }
}
