/** Promise 7, back: its boundary cases. */
public final class P07BackEdgesTest {
    public static void main(String[] args) {
        Sentences back = new Sentences();
        back.holds("NONE when nothing is KEPT: at first", P07BackEdgesTest::atFirst);
        back.holds("NONE when nothing is KEPT: nothing has changed", P07BackEdgesTest::noneChangesNothing);
        back.holds("and is not KEPT then", P07BackEdgesTest::notKeptThen);
        back.holds("and is not KEPT then: until the next sweep", P07BackEdgesTest::keptAgain);
        back.holds("how many MEMBERS: of each size, none and forty, too", P07BackEdgesTest::howMany);
        back.holds("What is KEPT: also over what was set since", P07BackEdgesTest::overWhatWasSet);
        back.holds("What is KEPT: also over what was put and swept away since", P07BackEdgesTest::overWhatWasPut);
        back.holds("wherever that lies: on another place", P07BackEdgesTest::onAnotherPlace);
        back.holds("wherever that lies: on several", P07BackEdgesTest::onSeveral);
        back.holds("or nowhere any more", P07BackEdgesTest::nowhere);
        back.holds("to the TRAY that had it: not to one that lies in its place", P07BackEdgesTest::notToAnother);
        back.holds("What is KEPT stays so through refused calls", P07BackEdgesTest::throughRefusedCalls);
        back.holds("What is KEPT stays so through lay, share, set, put and light", P07BackEdgesTest::throughOtherCalls);
        back.holds("back() is no SWEEP: nothing is counted", P07BackEdgesTest::notCounted);
        back.holds("only the MEMBERS of that TRAY come back", P07BackEdgesTest::onlyThatTray);
        back.end();
    }

    private static void atFirst(Check check) {
        check.due("new: back()", new SetterBench().back(), -1);
        SetterBench bench = new SetterBench();
        Benches.layNumbers(bench, 0, Benches.INTS, 1);
        Benches.layStones(bench, 1, Benches.STONES, Benches.GEM);
        bench.share(0, 2);
        check.due("no sweep yet: back()", bench.back(), -1);
    }

    private static SetterBench mixedWithNothingKept() {
        SetterBench bench = Benches.mixed();
        bench.back();
        return bench;
    }

    private static void noneChangesNothing(Check check) {
        Refusals.unchanged(check, "back()", -1, P07BackEdgesTest::mixedWithNothingKept, SetterBench::back);
        Refusals.unchanged(check, "new: back()", -1, SetterBench::new, SetterBench::back);
    }

    private static void notKeptThen(Check check) {
        SetterBench bench = Benches.mixed();
        check.due("back()", bench.back(), 4);
        bench.set(7, 0, 77);
        check.due("back()", bench.back(), -1);
        check.due("back()", bench.back(), -1);
        check.members("what was set since stays", bench, 7, 77, 8, 6, 4);
    }

    private static void keptAgain(Check check) {
        SetterBench bench = Benches.mixed();
        bench.back();
        bench.sweep(2, 0, 7, 0, 1);
        check.due("back()", bench.back(), 4);
        check.members("taken back", bench, 7, 9, 8, 6, 4);
        check.due("back()", bench.back(), -1);
    }

    private static void howMany(Check check) {
        for (int sort = 2; sort <= 10; sort++) {
            for (int n = 0; n <= 40; n++) {
                SetterBench bench = new SetterBench();
                bench.lay(0, sort, n);
                bench.sweep(0, 0, 0, 0, n);
                check.due("sort " + sort + " of " + n + ": back()", bench.back(), n);
                check.due("back()", bench.back(), -1);
            }
        }
    }

    private static void overWhatWasSet(Check check) {
        SetterBench bench = new SetterBench();
        Benches.layNumbers(bench, 0, Benches.LONGS, 1, 2, 3);
        bench.sweep(0, 1, 0, 1, 1);
        bench.set(0, 0, 7);
        bench.set(0, 2, 8);
        check.due("back()", bench.back(), 3);
        check.members("the first and the last, too", bench, 0, 1000003, 2000006, 3000009);
    }

    private static void overWhatWasPut(Check check) {
        SetterBench bench = new SetterBench();
        Benches.layStones(bench, 0, Benches.PEARLS, Benches.PEARL, Benches.GAP, Benches.PEARL);
        bench.sweep(0, 0, 0, 0, 0);
        bench.put(0, 0, Benches.GAP);
        bench.put(0, 1, Benches.PEARL);
        bench.put(0, 2, Benches.PEARL);
        check.due("back()", bench.back(), 3);
        check.members("the stones and the gap", bench, 0, 14, 0, 24);
    }

    private static SetterBench swept() {
        SetterBench bench = new SetterBench();
        Benches.layNumbers(bench, 0, Benches.INTS, 1, 2);
        Benches.layNumbers(bench, 1, Benches.INTS, 5, 6);
        bench.sweep(0, 0, 1, 0, 2);
        return bench;
    }

    private static void onAnotherPlace(Check check) {
        SetterBench bench = swept();
        bench.share(1, 7);
        bench.lay(1, 0, 0);
        check.due("back()", bench.back(), 2);
        check.members("on its new place", bench, 7, 5, 6);
        check.due("thing(1, 0)", bench.thing(1, 0), 0);
    }

    private static void onSeveral(Check check) {
        SetterBench bench = swept();
        bench.share(1, 0);
        bench.share(1, 7);
        check.due("back()", bench.back(), 2);
        for (int p : new int[] {0, 1, 7}) {
            check.members("on " + p, bench, p, 5, 6);
        }
    }

    private static void nowhere(Check check) {
        SetterBench laidOver = swept();
        laidOver.lay(1, 0, 0);
        check.due("laid over: back()", laidOver.back(), 2);
        check.due("thing(1, 0)", laidOver.thing(1, 0), 0);
        check.due("back()", laidOver.back(), -1);
        SetterBench sharedOver = swept();
        sharedOver.share(0, 1);
        check.due("shared over: back()", sharedOver.back(), 2);
        check.members("what lies there", sharedOver, 1, 1, 2);
        SetterBench lampOver = swept();
        lampOver.lay(1, Benches.LAMP, 0);
        check.due("a lamp over it: back()", lampOver.back(), 2);
        check.due("light(1)", lampOver.light(1), 1);
    }

    private static void notToAnother(Check check) {
        SetterBench bench = swept();
        bench.lay(1, Benches.INTS, 2);
        check.due("back()", bench.back(), 2);
        check.members("the new tray, alike in all", bench, 1, 0, 0);
        SetterBench other = swept();
        other.lay(1, Benches.INTS, 1);
        check.due("back()", other.back(), 2);
        check.members("a smaller one", other, 1, 0);
    }

    private static void throughRefusedCalls(Check check) {
        SetterBench bench = swept();
        bench.lay(2, Benches.LAMP, 0);
        bench.lay(8, Benches.INTS, 1);
        bench.lay(1, Benches.INTS, 41);
        bench.lay(1, 11, 1);
        bench.share(0, 8);
        bench.share(-1, 1);
        bench.set(1, 2, 9);
        bench.put(1, 0, Benches.GEM);
        bench.put(1, 0, 5);
        bench.sweep(0, 0, 7, 0, 1);
        bench.sweep(0, 0, 2, 0, 1);
        bench.sweep(1, 0, 0, 1, 2);
        bench.sweep(0, 0, 8, 0, 1);
        check.due("back()", bench.back(), 2);
        check.members("taken back", bench, 1, 5, 6);
        check.members("left alone", bench, 0, 1, 2);
    }

    private static void throughOtherCalls(Check check) {
        SetterBench bench = swept();
        bench.lay(2, Benches.LAMP, 0);
        bench.light(2);
        Benches.layStones(bench, 3, Benches.STONES, Benches.GEM, Benches.GEM);
        bench.set(0, 0, 9);
        bench.share(0, 4);
        check.due("back()", bench.back(), 2);
        check.members("taken back", bench, 1, 5, 6);
        check.members("left alone", bench, 0, 9, 2);
        check.members("left alone", bench, 3, 12, 22);
    }

    private static void notCounted(Check check) {
        SetterBench bench = swept();
        check.counts("ahead of it", bench, 0, 1, 0, 0, 0, 0, 2);
        bench.back();
        check.counts("after it", bench, 0, 1, 0, 0, 0, 0, 2);
        bench.back();
        check.counts("after NONE", bench, 0, 1, 0, 0, 0, 0, 2);
    }

    private static void onlyThatTray(Check check) {
        SetterBench bench = Benches.mixed();
        bench.set(2, 2, 70);
        bench.set(3, 0, 30);
        bench.put(5, 2, Benches.GEM);
        check.due("back()", bench.back(), 4);
        check.members("that tray", bench, 7, 9, 8, 6, 4);
        check.members("ints", bench, 2, 5, -1, 70);
        check.members("bytes", bench, 3, 30, -128);
        check.members("stones", bench, 4, 11, 23, 0, 34);
        check.members("gems", bench, 5, 42, 53, 62);
    }
}
