import java.util.Random;
import java.util.Set;
import java.util.TreeSet;

/** Long runs of calls, held against ModelBench; the seeds are fixed, so each run is the same every time. */
public final class RandomRunsTest {
    private static final int RUNS = 3000;
    private static final int CALLS = 512;
    private static final int[] WILD = {-1, 8, 11, 40, 41, Integer.MAX_VALUE, Integer.MIN_VALUE, Integer.MAX_VALUE - 1};

    /** Answers that the runs must come to, or they would show less than they seem to; "more" is 11 or more. */
    private static final String[] ALL_KINDS = {
        "lay true", "lay false", "share true", "share false",
        "set NONE", "set 0", "set 1", "set 2", "set 3",
        "put NONE", "put 0", "put 1", "put 2", "put 3", "put 10",
        "sweep NONE", "sweep 0", "sweep 1", "sweep 2", "sweep 3", "sweep 10", "sweep more",
        "back NONE", "back 0", "back 1", "back more", "light NONE", "light 1", "light 2",
        "member NONE", "member below", "member 0", "member 1", "member more",
        "thing NONE", "thing 0", "thing 1", "thing 7", "thing 10", "thing more",
        "worth NONE", "worth 0", "worth 1", "worth more", "mirror true", "mirror false",
        "count NONE", "count 0", "count 1", "count more",
    };

    private final Check check;
    private final Set<String> kinds;
    private final int seed;
    private final Random random;
    private final SetterBench bench = new SetterBench();
    private final ModelBench model = new ModelBench();
    private final int sortsFrom;
    private final int sizes;
    private int calls;

    private RandomRunsTest(Check check, Set<String> kinds, int seed) {
        this.check = check;
        this.kinds = kinds;
        this.seed = seed;
        random = new Random(seed);
        // Runs of stones alone and of small trays come to sweeps that are done, or stop, far more often.
        sortsFrom = seed % 2 == 0 ? 6 : 0;
        sizes = seed % 3 == 0 ? 41 : 7;
    }

    public static void main(String[] args) {
        Check check = new Check();
        Set<String> kinds = new TreeSet<>();
        for (int seed = 0; seed < RUNS; seed++) {
            RandomRunsTest run = new RandomRunsTest(check, kinds, seed);
            // A fifth of the runs ends with a look at all that is there: other runs look at a few members alone.
            boolean looking = seed % 5 == 0;
            int free = looking ? CALLS - run.callsOfLook() : CALLS;
            while (run.calls < free) {
                run.call();
            }
            if (looking) {
                run.look();
            }
            check.due("calls of the run with seed " + seed, run.calls, CALLS);
        }
        for (String kind : ALL_KINDS) {
            check.due("the runs come to: " + kind, kinds.contains(kind), true);
        }
        check.end();
    }

    private int below(int bound) {
        return random.nextInt(60) == 0 ? WILD[random.nextInt(WILD.length)] : random.nextInt(bound);
    }

    private int anyInt() {
        return random.nextBoolean() ? random.nextInt() : random.nextInt(5) - 2;
    }

    private void call() {
        int p = below(8);
        int q = below(8);
        int i = below(sizes);
        switch (random.nextInt(17)) {
            case 0, 1 -> {
                int sort = random.nextInt(8) == 0 ? below(11) : sortsFrom + below(11 - sortsFrom);
                due("lay", bench.lay(p, sort, i), model.lay(p, sort, i));
            }
            case 2 -> due("share", bench.share(p, q), model.share(p, q));
            case 3 -> {
                int v = anyInt();
                due("set", bench.set(p, i, v), model.set(p, i, v));
            }
            case 4, 5, 6 -> {
                int sort = below(5);
                due("put", bench.put(p, i, sort), model.put(p, i, sort));
            }
            case 7, 8, 9 -> {
                int j = below(sizes);
                int n = below(sizes);
                // Most runs would lie beyond if all three were free.
                int start = random.nextInt(3) == 0 ? i : below(2);
                due("sweep", bench.sweep(p, start, q, j / 2, n), model.sweep(p, start, q, j / 2, n));
            }
            case 10 -> due("back", bench.back(), model.back());
            case 11 -> due("light", bench.light(p), model.light(p));
            case 12 -> thing(p, below(3));
            case 13 -> worth(p);
            case 14 -> count(below(7));
            case 15 -> due("mirror", bench.mirror(p, q), model.mirror(p, q));
            default -> member(p, i);
        }
    }

    private int callsOfLook() {
        return 7 + 8 * (3 + 1 + sizes) + 1;
    }

    private void look() {
        for (int what = 0; what < 7; what++) {
            count(what);
        }
        for (int p = 0; p < 8; p++) {
            for (int what = 0; what < 3; what++) {
                thing(p, what);
            }
            worth(p);
        }
        // What is kept shows only in the members that have come back.
        due("back", bench.back(), model.back());
        for (int p = 0; p < 8; p++) {
            for (int i = 0; i < sizes; i++) {
                member(p, i);
            }
        }
    }

    private void thing(int p, int what) {
        due("thing", bench.thing(p, what), model.thing(p, what));
    }

    private void worth(int p) {
        due("worth", bench.worth(p), model.worth(p));
    }

    private void count(int what) {
        due("count", bench.count(what), model.count(what));
    }

    private void member(int p, int i) {
        due("member", bench.member(p, i), model.member(p, i));
    }

    private void due(String name, long got, long want) {
        calls++;
        kinds.add(name + " " + kindOf(want));
        check.due("seed " + seed + ", call " + calls + ": " + name, got, want);
    }

    private void due(String name, boolean got, boolean want) {
        calls++;
        kinds.add(name + " " + want);
        check.due("seed " + seed + ", call " + calls + ": " + name, got, want);
    }

    private static String kindOf(long answer) {
        if (answer == -1) {
            return "NONE";
        }
        return answer < -1 ? "below" : answer > 10 ? "more" : String.valueOf(answer);
    }
}
