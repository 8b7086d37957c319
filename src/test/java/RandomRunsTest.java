import java.util.Random;

/** Long runs of calls, held against ModelBench; the seeds are fixed, so each run is the same every time. */
public final class RandomRunsTest {
    private static final int RUNS = 3000;
    private static final int CALLS = 512;
    private static final int[] WILD = {-1, 8, 11, 40, 41, Integer.MAX_VALUE, Integer.MIN_VALUE, Integer.MAX_VALUE - 1};

    private final Check check;
    private final Random random;
    private final SetterBench bench = new SetterBench();
    private final ModelBench model = new ModelBench();
    private final int sortsFrom;
    private final int sizes;

    private RandomRunsTest(Check check, int seed) {
        this.check = check;
        random = new Random(seed);
        // Runs of stones alone and of small trays come to sweeps that are done, or stop, far more often.
        sortsFrom = seed % 2 == 0 ? 6 : 0;
        sizes = seed % 3 == 0 ? 41 : 7;
    }

    public static void main(String[] args) {
        Check check = new Check();
        for (int seed = 0; seed < RUNS; seed++) {
            RandomRunsTest run = new RandomRunsTest(check, seed);
            for (int call = 0; call < CALLS; call++) {
                run.call("seed " + seed + ", call " + call + ": ");
            }
        }
        check.end();
    }

    private int below(int bound) {
        return random.nextInt(60) == 0 ? WILD[random.nextInt(WILD.length)] : random.nextInt(bound);
    }

    private int anyInt() {
        return random.nextBoolean() ? random.nextInt() : random.nextInt(5) - 2;
    }

    private void call(String at) {
        int p = below(8);
        int q = below(8);
        int i = below(sizes);
        switch (random.nextInt(17)) {
            case 0, 1 -> {
                int sort = random.nextInt(8) == 0 ? below(11) : sortsFrom + below(11 - sortsFrom);
                check.due(at + "lay", bench.lay(p, sort, i), model.lay(p, sort, i));
            }
            case 2 -> check.due(at + "share", bench.share(p, q), model.share(p, q));
            case 3 -> {
                int v = anyInt();
                check.due(at + "set", bench.set(p, i, v), model.set(p, i, v));
            }
            case 4, 5, 6 -> {
                int sort = below(5);
                check.due(at + "put", bench.put(p, i, sort), model.put(p, i, sort));
            }
            case 7, 8, 9 -> {
                int j = below(sizes);
                int n = below(sizes);
                // Most runs would lie beyond if all three were free.
                int start = random.nextInt(3) == 0 ? i : below(2);
                check.due(at + "sweep", bench.sweep(p, start, q, j / 2, n), model.sweep(p, start, q, j / 2, n));
            }
            case 10 -> check.due(at + "back", bench.back(), model.back());
            case 11 -> check.due(at + "light", bench.light(p), model.light(p));
            case 12 -> {
                int what = below(3);
                check.due(at + "thing", bench.thing(p, what), model.thing(p, what));
            }
            case 15 -> check.due(at + "mirror", bench.mirror(p, q), model.mirror(p, q));
            case 13 -> check.due(at + "worth", bench.worth(p), model.worth(p));
            case 14 -> {
                int what = below(7);
                check.due(at + "count", bench.count(what), model.count(what));
            }
            default -> check.due(at + "member", bench.member(p, i), model.member(p, i));
        }
    }
}
