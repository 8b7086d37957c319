/** Promise 7: back, and what sweep KEEPS. */
public final class P07BackTest {
    private static final Check CHECK = new Check();

    public static void main(String[] args) {
        allMembersComeBack();
        onlyTheLastIsKept();
        refusedSweepsKeepNothingNew();
        wherever();
        stoppedAndEmptyRuns();
        trayWithoutMembers();
        CHECK.end();
    }

    private static void allMembersComeBack() {
        SetterBench bench = new SetterBench();
        Benches.layNumbers(bench, 0, Benches.LONGS, 1, 2, 3);
        Benches.layNumbers(bench, 1, Benches.LONGS, 7, 8, 9);
        bench.sweep(0, 0, 1, 0, 2);
        bench.set(1, 2, 5);
        bench.set(0, 0, 4);
        CHECK.due("back()", bench.back(), 3);
        CHECK.members("also what was set since", bench, 1, 7000021, 8000024, 9000027);
        CHECK.members("the other tray is left alone", bench, 0, 4000012, 2000006, 3000009);
        CHECK.due("not kept then: back()", bench.back(), -1);
        CHECK.counts("back carries nothing", bench, 0, 1, 0, 0, 0, 0, 2);
    }

    private static void onlyTheLastIsKept() {
        SetterBench bench = new SetterBench();
        Benches.layNumbers(bench, 0, Benches.INTS, 1, 2);
        Benches.layNumbers(bench, 1, Benches.INTS, 3, 4, 5);
        Benches.layNumbers(bench, 2, Benches.INTS, 6);
        bench.sweep(0, 0, 1, 0, 2);
        bench.sweep(0, 1, 2, 0, 1);
        CHECK.due("back()", bench.back(), 1);
        CHECK.members("the last one", bench, 2, 6);
        CHECK.members("the one before stays", bench, 1, 1, 2, 5);
        CHECK.due("back()", bench.back(), -1);
        bench.sweep(0, 0, 1, 1, 1);
        bench.sweep(0, 0, 1, 2, 1);
        CHECK.due("two to one tray: back()", bench.back(), 3);
        CHECK.members("as ahead of the second one", bench, 1, 1, 1, 5);
    }

    private static void refusedSweepsKeepNothingNew() {
        SetterBench bench = new SetterBench();
        Benches.layNumbers(bench, 0, Benches.INTS, 1, 2);
        Benches.layNumbers(bench, 1, Benches.INTS, 3, 4);
        bench.lay(2, Benches.LAMP, 0);
        bench.sweep(0, 0, 1, 0, 1);
        bench.sweep(0, 0, 7, 0, 1);
        bench.sweep(0, 0, 2, 0, 1);
        bench.sweep(1, 0, 0, 0, 3);
        bench.sweep(0, 0, 8, 0, 1);
        CHECK.due("back()", bench.back(), 2);
        CHECK.members("of the sweep that was done", bench, 1, 3, 4);
    }

    private static void wherever() {
        SetterBench bench = new SetterBench();
        Benches.layNumbers(bench, 0, Benches.INTS, 1);
        Benches.layNumbers(bench, 1, Benches.INTS, 2, 3);
        bench.sweep(0, 0, 1, 1, 1);
        bench.share(1, 5);
        Benches.layNumbers(bench, 1, Benches.INTS, 8, 9);
        CHECK.due("back()", bench.back(), 2);
        CHECK.members("where it lies now", bench, 5, 2, 3);
        CHECK.members("not what lies on its old place", bench, 1, 8, 9);
        bench.sweep(0, 0, 5, 0, 1);
        bench.lay(5, 0, 0);
        CHECK.due("nowhere any more: back()", bench.back(), 2);
        CHECK.due("thing(5, 0)", bench.thing(5, 0), 0);
        CHECK.due("back()", bench.back(), -1);
    }

    private static void stoppedAndEmptyRuns() {
        SetterBench bench = new SetterBench();
        Benches.layStones(bench, 0, Benches.STONES, Benches.PEARL, Benches.RUBY);
        Benches.layStones(bench, 1, Benches.PEARLS, Benches.PEARL, Benches.GAP, Benches.PEARL);
        CHECK.due("stops", bench.sweep(0, 0, 1, 0, 2), 11);
        CHECK.due("back()", bench.back(), 3);
        CHECK.members("back", bench, 1, 34, 0, 44);
        bench.sweep(0, 0, 1, 0, 0);
        bench.put(1, 1, Benches.PEARL);
        CHECK.due("a sweep of none keeps, too: back()", bench.back(), 3);
        CHECK.members("back", bench, 1, 34, 0, 44);
    }

    private static void trayWithoutMembers() {
        SetterBench bench = new SetterBench();
        bench.lay(0, Benches.INTS, 0);
        Benches.layNumbers(bench, 1, Benches.INTS, 5);
        bench.sweep(1, 0, 1, 0, 1);
        CHECK.due("sweep(0, 0, 0, 0, 0)", bench.sweep(0, 0, 0, 0, 0), 0);
        CHECK.due("none came back, but were kept: back()", bench.back(), 0);
        CHECK.due("back()", bench.back(), -1);
        bench.lay(2, Benches.BYTES, 40);
        bench.set(2, 39, 7);
        bench.lay(3, Benches.BYTES, 1);
        bench.sweep(3, 0, 2, 39, 1);
        CHECK.due("forty: back()", bench.back(), 40);
        CHECK.due("member(2, 39)", bench.member(2, 39), 7);
    }
}
