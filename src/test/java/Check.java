/** Counts the answers of one test that are not the ones that are due. */
final class Check {
    /** A fault can make thousands of answers wrong; the first ones tell enough. */
    private static final int MOST_TOLD = 50;

    private int asked;
    private int wrong;

    void due(String call, long got, long want) {
        asked++;
        if (got != want) {
            wrong++;
            if (wrong <= MOST_TOLD) {
                System.out.println(call + " answered " + got + ", due is " + want);
            }
        }
    }

    void due(String call, boolean got, boolean want) {
        due(call, got ? 1L : 0L, want ? 1L : 0L);
    }

    void due(String call, String got, String want) {
        due(call, got.equals(want), true);
        if (!got.equals(want) && wrong <= MOST_TOLD) {
            System.out.println("  shown: " + got);
            System.out.println("  due:   " + want);
        }
    }

    /** All members of the tray on p, and that there are no more. */
    void members(String when, SetterBench bench, int p, long... want) {
        due(when + ": thing(" + p + ", 1)", bench.thing(p, 1), want.length);
        for (int i = 0; i < want.length; i++) {
            due(when + ": member(" + p + ", " + i + ")", bench.member(p, i), want[i]);
        }
    }

    /** count(0) to count(6). */
    void counts(String when, SetterBench bench, int... want) {
        for (int what = 0; what < want.length; what++) {
            due(when + ": count(" + what + ")", bench.count(what), want[what]);
        }
    }

    /** A check that asked nothing has shown nothing. */
    boolean allDue() {
        return wrong == 0 && asked != 0;
    }

    void end() {
        System.out.println(asked + " answers, " + wrong + " not as due");
        if (!allDue()) {
            System.exit(1);
        }
    }
}
