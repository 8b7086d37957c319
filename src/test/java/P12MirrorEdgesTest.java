import java.util.Arrays;

/** Promise 12, mirror: its boundary cases. */
public final class P12MirrorEdgesTest {
    public static void main(String[] args) {
        Sentences mirror = new Sentences();
        mirror.holds("TRAYS of stones with as many MEMBERS: none", P12MirrorEdgesTest::traysOfNone);
        mirror.holds("TRAYS of stones with as many MEMBERS: not one more or fewer", P12MirrorEdgesTest::otherSizes);
        mirror.holds("the sorts .. from its first MEMBER on .. from its last MEMBER back: every two strands",
            P12MirrorEdgesTest::everyTwoStrands);
        mirror.holds("from its first MEMBER on, from its last MEMBER back: forty", P12MirrorEdgesTest::forty);
        mirror.holds("(0 of a GAP): GAPS at the ends count", P12MirrorEdgesTest::gapsAtTheEnds);
        mirror.holds("the sorts: not the stones' numbers", P12MirrorEdgesTest::notTheNumbers);
        mirror.holds("the sorts: not those of the TRAYS", P12MirrorEdgesTest::notTheTrays);
        mirror.holds("on p and q: the same TRAY, on one place and on two", P12MirrorEdgesTest::sameTray);
        mirror.holds("TRAYS of stones: not NOTHING", P12MirrorEdgesTest::nothing);
        mirror.holds("TRAYS of stones: not a LAMP", P12MirrorEdgesTest::lamp);
        mirror.holds("TRAYS of stones: not those of numbers", P12MirrorEdgesTest::numbers);
        mirror.holds("on p and q: no such place", P12MirrorEdgesTest::noSuchPlace);
        mirror.end();
    }

    private static void mirror(Check check, boolean want, int[] one, int[] other) {
        SetterBench bench = new SetterBench();
        Benches.layStones(bench, 0, Benches.STONES, one);
        Benches.layStones(bench, 7, Benches.STONES, other);
        String both = Arrays.toString(one) + ", " + Arrays.toString(other);
        check.due("mirror of " + both, bench.mirror(0, 7), want);
        check.due("the other way: " + both, bench.mirror(7, 0), want);
    }

    private static int[] stones(int... sorts) {
        return sorts;
    }

    private static int[] strand(int code) {
        return stones(code % 5, code / 5 % 5, code / 25);
    }

    private static void traysOfNone(Check check) {
        mirror(check, true, stones(), stones());
        for (int one = 6; one <= 10; one++) {
            for (int other = 6; other <= 10; other++) {
                SetterBench bench = new SetterBench();
                bench.lay(0, one, 0);
                bench.lay(1, other, 0);
                check.due("sorts " + one + ", " + other, bench.mirror(0, 1), true);
            }
        }
    }

    private static void otherSizes(Check check) {
        mirror(check, false, stones(), stones(0));
        mirror(check, false, stones(0), stones(0, 0));
        mirror(check, false, stones(1), stones(1, 0));
        mirror(check, false, stones(1), stones(0, 1));
        mirror(check, false, stones(1, 2), stones(2, 1, 0));
        mirror(check, false, stones(1, 2), stones(0, 2, 1));
        mirror(check, false, new int[39], new int[40]);
        mirror(check, true, new int[40], new int[40]);
    }

    private static void everyTwoStrands(Check check) {
        for (int one = 0; one < 125; one++) {
            for (int other = 0; other < 125; other++) {
                int[] first = strand(one);
                int[] second = strand(other);
                boolean want = first[0] == second[2] && first[1] == second[1] && first[2] == second[0];
                mirror(check, want, first, second);
            }
        }
    }

    private static void forty(Check check) {
        int[] one = new int[40];
        int[] other = new int[40];
        for (int i = 0; i < 40; i++) {
            one[i] = i * i % 5;
            other[39 - i] = one[i];
        }
        mirror(check, true, one, other);
        for (int i : new int[] {0, 1, 19, 20, 38, 39}) {
            int[] changed = other.clone();
            changed[i] = (changed[i] + 1) % 5;
            mirror(check, false, one, changed);
        }
    }

    private static void gapsAtTheEnds(Check check) {
        mirror(check, true, stones(0, 0, 1), stones(1, 0, 0));
        mirror(check, false, stones(0, 0, 1), stones(0, 0, 1));
        mirror(check, false, stones(0, 1), stones(1, 1));
        mirror(check, false, stones(1, 0), stones(1, 1));
        mirror(check, true, stones(0), stones(0));
        mirror(check, false, stones(0), stones(4));
    }

    private static void notTheNumbers(Check check) {
        SetterBench bench = new SetterBench();
        bench.lay(0, Benches.STONES, 2);
        bench.lay(1, Benches.STONES, 2);
        for (int made = 0; made < 12; made++) {
            bench.put(0, 0, Benches.GEM);
        }
        bench.put(1, 1, Benches.GEM);
        check.due("stones 12 and 13", bench.mirror(0, 1), true);
    }

    private static void notTheTrays(Check check) {
        for (int one : new int[] {Benches.STONES, Benches.GEMS, Benches.RUBIES, Benches.ROUNDS}) {
            for (int other : new int[] {Benches.STONES, Benches.GEMS, Benches.RUBIES, Benches.ROUNDS}) {
                SetterBench bench = new SetterBench();
                Benches.layStones(bench, 0, one, Benches.RUBY, Benches.GAP);
                Benches.layStones(bench, 1, other, Benches.GAP, Benches.RUBY);
                check.due("sorts " + one + ", " + other, bench.mirror(0, 1), true);
            }
        }
        SetterBench bench = new SetterBench();
        bench.lay(0, Benches.PEARLS, 3);
        bench.lay(1, Benches.RUBIES, 3);
        check.due("gaps of pearls and of rubies", bench.mirror(0, 1), true);
    }

    private static void sameTray(Check check) {
        SetterBench bench = new SetterBench();
        Benches.layStones(bench, 0, Benches.STONES, 1, 2, 1);
        bench.share(0, 7);
        check.due("even: mirror(0, 0)", bench.mirror(0, 0), true);
        check.due("even: mirror(0, 7)", bench.mirror(0, 7), true);
        bench.put(7, 2, Benches.PEARL);
        check.due("uneven: mirror(0, 0)", bench.mirror(0, 0), false);
        check.due("uneven: mirror(7, 0)", bench.mirror(7, 0), false);
    }

    /** A thing that is no tray of stones is no mirror of a tray of none, nor of itself. */
    private static void noMirror(Check check, int sort) {
        SetterBench bench = new SetterBench();
        bench.lay(0, Benches.STONES, 0);
        bench.lay(1, sort, 0);
        check.due("sort " + sort + ": mirror(0, 1)", bench.mirror(0, 1), false);
        check.due("sort " + sort + ": mirror(1, 0)", bench.mirror(1, 0), false);
        check.due("sort " + sort + ": mirror(1, 1)", bench.mirror(1, 1), false);
        bench.lay(2, sort, 0);
        check.due("sort " + sort + " twice: mirror(1, 2)", bench.mirror(1, 2), false);
    }

    private static void nothing(Check check) {
        noMirror(check, 0);
    }

    private static void lamp(Check check) {
        noMirror(check, Benches.LAMP);
    }

    private static void numbers(Check check) {
        for (int sort = 2; sort <= 5; sort++) {
            noMirror(check, sort);
            SetterBench bench = new SetterBench();
            bench.lay(0, Benches.STONES, 2);
            bench.lay(1, sort, 2);
            check.due("gaps and 0s: mirror(0, 1)", bench.mirror(0, 1), false);
            check.due("0s and gaps: mirror(1, 0)", bench.mirror(1, 0), false);
        }
    }

    private static void noSuchPlace(Check check) {
        for (int p : Benches.outside(0, 7)) {
            for (int q = 0; q < 8; q++) {
                int place = q;
                Refusals.unchanged(check, "mirror(" + p + ", " + q + ")", 0, bench -> bench.mirror(p, place) ? 1 : 0);
                Refusals.unchanged(check, "mirror(" + q + ", " + p + ")", 0, bench -> bench.mirror(place, p) ? 1 : 0);
            }
            for (int q : Benches.outside(0, 7)) {
                check.due("mirror(" + p + ", " + q + ")", new SetterBench().mirror(p, q), false);
            }
        }
    }
}
