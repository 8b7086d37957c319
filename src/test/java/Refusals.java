/** Calls that are refused: the answer that is due, and nothing changed that other calls show. */
final class Refusals {
    interface Maker {
        SetterBench make();
    }

    interface Call {
        long on(SetterBench bench);
    }

    private Refusals() {
    }

    /** A call on Benches.mixed() that changes nothing at all. */
    static void unchanged(Check check, String name, long want, Call call) {
        unchanged(check, name, want, Benches::mixed, call);
    }

    static void unchanged(Check check, String name, long want, Maker maker, Call call) {
        SetterBench asked = maker.make();
        check.due(name, call.on(asked), want);
        check.due(name + ": nothing has changed", Shown.all(asked), Shown.all(maker.make()));
    }

    /** A SWEEP on Benches.mixed(), refused with 1, 2 or 3: it is counted, stones may have been made, and that is all. */
    static void sweep(Check check, String name, int want, int stonesMade, Call call) {
        SetterBench asked = Benches.mixed();
        SetterBench other = Benches.mixed();
        check.due(name, call.on(asked), want);
        for (int what = 0; what <= 6; what++) {
            int more = what == 0 ? stonesMade : what == want + 1 ? 1 : 0;
            check.due(name + ": count(" + what + ")", asked.count(what), other.count(what) + more);
        }
        check.due(name + ": nothing is done", Shown.allButCounts(asked), Shown.allButCounts(other));
    }
}
