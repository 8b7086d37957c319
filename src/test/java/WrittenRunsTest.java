/**
 * Runs in which calls of all promises follow one another, each with the answer that the document asks for, worked out
 * by hand: so they lean neither on the class nor on ModelBench.
 */
public final class WrittenRunsTest {
    private static final Check CHECK = new Check();

    private static final String STONES_STOP_AND_COME_BACK = """
        thing(0, 0) 0
        lay(0, 6, 5) true
        lay(1, 10, 5) true
        lay(2, 7, 5) true
        lay(3, 8, 3) true
        lay(4, 9, 3) true
        put(0, 0, 3) 0
        put(0, 1, 3) 0
        put(0, 2, 4) 0
        put(0, 3, 2) 0
        put(0, 4, 1) 0
        worth(0) 65
        mirror(0, 0) false
        sweep(0, 0, 1, 0, 5) 13
        member(1, 2) 34
        member(1, 3) 0
        member(0, 2) 34
        worth(1) 60
        sweep(1, 0, 2, 1, 4) 12
        member(2, 0) 0
        member(2, 1) 13
        member(2, 2) 23
        member(2, 3) 0
        worth(2) 45
        back() 5
        worth(2) 0
        back() -1
        sweep(1, 0, 3, 0, 3) 12
        thing(3, 1) 3
        sweep(1, 2, 4, 2, 1) 0
        member(4, 2) 34
        put(4, 0, 3) 10
        member(4, 0) 0
        put(4, 0, 4) 0
        member(4, 0) 74
        worth(4) 30
        put(4, 1, 4) 0
        worth(4) 55
        mirror(4, 4) true
        mirror(3, 4) false
        back() 3
        worth(4) 0
        member(3, 1) 23
        put(4, 0, 0) 0
        count(0) 8
        count(1) 9
        count(2) 0
        count(3) 0
        count(4) 0
        count(5) 4
        count(6) 16
        """;

    private static final String NUMBERS_SHARED_AND_LAID_AWAY = """
        lay(0, 2, 3) true
        set(0, 0, 7) 0
        set(0, 1, -1) 0
        set(0, 2, 2147483647) 0
        set(0, 3, 1) 3
        share(0, 3) true
        share(0, 8) false
        thing(3, 2) 0
        sweep(3, 0, 0, 1, 2) 0
        member(0, 0) 7
        member(0, 1) 7
        member(3, 2) -1
        lay(0, 0, 0) true
        thing(3, 2) 3
        thing(0, 2) 0
        lay(3, 5, 2) true
        back() 3
        back() -1
        member(3, 0) 0
        set(3, 0, 3) 0
        set(3, 1, -2) 0
        member(3, 0) 1
        member(3, 1) 0
        lay(1, 4, 2) true
        set(1, 0, 200) 0
        set(1, 1, -129) 0
        member(1, 0) -56
        member(1, 1) 127
        sweep(1, 0, 3, 0, 2) 2
        sweep(1, 0, 0, 0, 2) 1
        sweep(1, 1, 1, 0, 2) 3
        sweep(1, 1, -1, 0, 1) -1
        sweep(1, 1, 1, 0, 1) 0
        member(1, 0) 127
        share(1, 0) true
        lay(1, 1, 0) true
        lay(1, 11, 0) false
        light(1) 1
        share(1, 2) true
        light(2) 2
        light(0) -1
        thing(2, 2) 1
        thing(2, 0) 1
        thing(2, 1) 0
        thing(2, 3) -1
        set(2, 0, 1) 2
        put(2, 0, 1) 2
        put(0, 0, 0) 2
        put(0, 0, 5) -1
        put(5, 0, 0) 1
        set(5, 0, 0) 1
        set(8, 0, 0) -1
        member(2, 0) -1
        worth(0) -1
        mirror(0, 0) false
        back() 2
        member(0, 0) -56
        member(0, 1) 127
        light(1) 3
        count(0) 1
        count(1) 2
        count(2) 2
        count(3) 3
        count(4) 1
        count(5) 0
        count(6) 3
        count(7) -1
        """;

    private static final String ONE_TRAY_OVER_ITSELF = """
        lay(6, 10, 6) true
        put(6, 0, 3) 0
        put(6, 1, 4) 0
        put(6, 5, 3) 0
        share(6, 2) true
        mirror(2, 6) false
        put(2, 4, 4) 0
        mirror(2, 6) true
        worth(6) 70
        sweep(2, 0, 6, 1, 5) 0
        member(2, 0) 13
        member(2, 1) 13
        member(2, 2) 24
        member(2, 3) 0
        member(2, 4) 0
        member(2, 5) 44
        worth(6) 75
        lay(6, 6, 6) true
        sweep(2, 5, 2, 6, 0) 0
        sweep(2, 5, 2, 6, 1) 3
        sweep(2, 1, 6, 0, 5) 0
        member(6, 0) 13
        member(6, 1) 24
        member(6, 4) 44
        member(6, 5) 0
        sweep(6, 1, 6, 0, 5) 0
        member(6, 0) 24
        member(6, 3) 44
        member(6, 4) 0
        back() 6
        member(6, 0) 13
        member(6, 5) 0
        worth(2) 75
        count(0) 4
        count(1) 8
        count(2) 0
        count(3) 0
        count(4) 1
        count(5) 0
        count(6) 19
        """;

    public static void main(String[] args) {
        run("stones stop and come back", STONES_STOP_AND_COME_BACK);
        run("numbers shared and laid away", NUMBERS_SHARED_AND_LAID_AWAY);
        run("one tray over itself", ONE_TRAY_OVER_ITSELF);
        allCallsToTheLastOf512();
        CHECK.end();
    }

    private static void run(String name, String rows) {
        SetterBench bench = new SetterBench();
        for (String row : rows.split("\n")) {
            int end = row.lastIndexOf(' ');
            String call = row.substring(0, end);
            CHECK.due(name + ": " + call, Calls.answer(bench, call), row.substring(end + 1));
        }
    }

    /** 6 calls, 31 rounds of 16, and 10 more: the answers grow with the rounds, so each is due by a formula. */
    private static void allCallsToTheLastOf512() {
        SetterBench bench = new SetterBench();
        bench.lay(0, Benches.STONES, 40);
        bench.lay(1, Benches.RUBIES, 40);
        bench.lay(2, Benches.LAMP, 0);
        bench.lay(3, Benches.LONGS, 2);
        bench.lay(4, Benches.BYTES, 40);
        bench.share(0, 7);
        for (int round = 0; round < 31; round++) {
            stonesOfOneRound(bench, round);
            restOfOneRound(bench, round);
        }
        CHECK.counts("after 502 calls", bench, 62, 62, 31, 16, 15, 31, 31 + 496);
        CHECK.due("call 510: worth(0)", bench.worth(0), 31 * 20 + 30 * 5);
        CHECK.due("call 511: back()", bench.back(), -1);
        CHECK.due("call 512: member(0, 30)", bench.member(0, 30), 613);
    }

    private static void stonesOfOneRound(SetterBench bench, int round) {
        String at = "round " + round + ": ";
        CHECK.due(at + "a ruby", bench.put(0, round, Benches.RUBY), 0);
        CHECK.due(at + "a pearl, to rubies", bench.put(1, round, Benches.PEARL), 10);
        CHECK.due(at + "all rubies", bench.sweep(7, 0, 1, 0, round + 1), 0);
        CHECK.due(at + "what they are worth", bench.worth(1), 20 * (round + 1) + 5 * round);
        CHECK.due(at + "rubies first on both", bench.mirror(0, 1), false);
        CHECK.due(at + "back()", bench.back(), 40);
        CHECK.due(at + "worth of gaps", bench.worth(1), 0);
        CHECK.due(at + "gaps on both", bench.mirror(1, 1), true);
    }

    private static void restOfOneRound(SetterBench bench, int round) {
        String at = "round " + round + ": ";
        int i = round % 3;
        CHECK.due(at + "light", bench.light(2), round + 1);
        CHECK.due(at + "set", bench.set(3, i, round), i == 2 ? 3 : 0);
        CHECK.due(at + "member", bench.member(3, i), i == 2 ? -1 : 1000003L * round);
        CHECK.due(at + "the least place", bench.thing(7, 2), 0);
        CHECK.due(at + "lay", bench.lay(5, 2 + round % 9, round), true);
        CHECK.due(at + "how many members", bench.thing(5, 1), round);
        CHECK.due(at + "to nothing", bench.sweep(5, 0, 6, 0, 0), 1);
        if (round % 2 == 0) {
            CHECK.due(at + "from a lamp", bench.sweep(2, 0, 4, 0, 0), 2);
        } else {
            CHECK.due(at + "beyond", bench.sweep(0, 40, 1, 0, 1), 3);
        }
    }
}
