/** Promise 8, light: its boundary cases. */
public final class P08LightEdgesTest {
    public static void main(String[] args) {
        Sentences light = new Sentences();
        light.holds("how often it was: the first time 1", P08LightEdgesTest::firstTime);
        light.holds("once more: each time one more, to the last of 512 calls", P08LightEdgesTest::manyTimes);
        light.holds("The LAMP on p: the one that lies on several places", P08LightEdgesTest::onSeveral);
        light.holds("The LAMP on p: each has its own", P08LightEdgesTest::eachItsOwn);
        light.holds("NONE: none lies there: NOTHING does", P08LightEdgesTest::nothing);
        light.holds("NONE: none lies there: a TRAY does", P08LightEdgesTest::trays);
        light.holds("NONE: no such place", P08LightEdgesTest::noSuchPlace);
        light.holds("a LAMP that comes back to a place was lit as often", P08LightEdgesTest::comesBack);
        light.end();
    }

    private static void firstTime(Check check) {
        for (int p = 0; p < 8; p++) {
            SetterBench bench = new SetterBench();
            bench.lay(p, Benches.LAMP, 0);
            check.due("light(" + p + ")", bench.light(p), 1);
        }
    }

    private static void manyTimes(Check check) {
        SetterBench bench = new SetterBench();
        bench.lay(7, Benches.LAMP, 0);
        for (int times = 1; times <= 511; times++) {
            check.due("light(7)", bench.light(7), times);
        }
    }

    private static void onSeveral(Check check) {
        SetterBench bench = new SetterBench();
        bench.lay(0, Benches.LAMP, 0);
        for (int p = 1; p < 8; p++) {
            bench.share(0, p);
        }
        for (int p = 0; p < 8; p++) {
            check.due("light(" + p + ")", bench.light(p), p + 1);
        }
    }

    private static void eachItsOwn(Check check) {
        SetterBench bench = new SetterBench();
        for (int p = 0; p < 8; p++) {
            bench.lay(p, Benches.LAMP, 0);
        }
        for (int times = 1; times <= 3; times++) {
            for (int p = 0; p < 8; p++) {
                check.due("light(" + p + ")", bench.light(p), times);
            }
        }
    }

    private static void nothing(Check check) {
        Refusals.unchanged(check, "light(0)", -1, bench -> bench.light(0));
        for (int p = 0; p < 8; p++) {
            check.due("new: light(" + p + ")", new SetterBench().light(p), -1);
        }
    }

    private static void trays(Check check) {
        for (int p = 2; p < 8; p++) {
            int place = p;
            Refusals.unchanged(check, "light(" + p + ")", -1, bench -> bench.light(place));
        }
        for (int sort = 2; sort <= 10; sort++) {
            for (int n : new int[] {0, 1, 40}) {
                SetterBench bench = new SetterBench();
                bench.lay(0, sort, n);
                check.due("sort " + sort + " of " + n + ": light(0)", bench.light(0), -1);
            }
        }
    }

    private static void noSuchPlace(Check check) {
        for (int p : Benches.outside(0, 7)) {
            Refusals.unchanged(check, "light(" + p + ")", -1, bench -> bench.light(p));
        }
    }

    private static void comesBack(Check check) {
        SetterBench bench = new SetterBench();
        bench.lay(0, Benches.LAMP, 0);
        bench.light(0);
        bench.share(0, 1);
        bench.lay(0, 0, 0);
        check.due("light(0)", bench.light(0), -1);
        bench.share(1, 0);
        check.due("light(0)", bench.light(0), 2);
    }
}
