/** What the calls of the face show of a bench, as one text; the bench is spent by it, and its trays should be small. */
final class Shown {
    private final SetterBench bench;
    private final StringBuilder text = new StringBuilder();

    private Shown(SetterBench bench) {
        this.bench = bench;
    }

    /** All that can be shown. */
    static String all(SetterBench bench) {
        Shown shown = new Shown(bench);
        shown.counts();
        shown.thingsAndWhatIsKept();
        shown.nextStone();
        return shown.text.toString();
    }

    /** All but the counts, and the number of the next stone, which a refused SWEEP may change. */
    static String allButCounts(SetterBench bench) {
        Shown shown = new Shown(bench);
        shown.thingsAndWhatIsKept();
        return shown.text.toString();
    }

    private void counts() {
        text.append("counts");
        for (int what = 0; what <= 6; what++) {
            text.append(' ').append(bench.count(what));
        }
    }

    private void thingsAndWhatIsKept() {
        for (int p = 0; p < 8; p++) {
            thing(p);
            members(p);
            mirrors(p);
        }
        for (int p = 0; p < 8; p++) {
            text.append(" light ").append(bench.light(p));
        }
        // Only back() shows what is kept, and where it comes back to.
        text.append(" back ").append(bench.back());
        for (int p = 0; p < 8; p++) {
            members(p);
        }
    }

    private void thing(int p) {
        text.append(" on ").append(p).append(':');
        for (int what = 0; what <= 2; what++) {
            text.append(' ').append(bench.thing(p, what));
        }
        text.append(" worth ").append(bench.worth(p));
    }

    private void members(int p) {
        text.append(" [");
        int size = bench.thing(p, 1);
        for (int i = 0; i < size; i++) {
            text.append(bench.member(p, i)).append(' ');
        }
        text.append(bench.member(p, size)).append(']');
    }

    private void mirrors(int p) {
        for (int q = 0; q < 8; q++) {
            text.append(bench.mirror(p, q) ? '=' : '.');
        }
    }

    private void nextStone() {
        bench.lay(0, Benches.STONES, 1);
        text.append(" put ").append(bench.put(0, 0, Benches.PEARL));
        text.append(" next ").append(bench.member(0, 0));
    }
}
