/** The boundary cases that the document's terms name: places, trays and their members, stones and what takes them. */
public final class TermsEdgesTest {
    /** The sorts of stones that the trays of sorts 6 to 10 take, GAPS first. */
    private static final String[] TAKEN = {"01234", "023", "03", "04", "034"};

    public static void main(String[] args) {
        Sentences terms = new Sentences();
        terms.holds("PLACES 0 .. 7: on each lies a THING", TermsEdgesTest::aThingOnEachPlace);
        terms.holds("or NOTHING (at first)", TermsEdgesTest::nothingAtFirst);
        terms.holds("one THING can lie on several: on all eight", TermsEdgesTest::oneThingOnAll);
        terms.holds("TRAYS of 0 .. 40 MEMBERS: none", TermsEdgesTest::trayOfNone);
        terms.holds("TRAYS of 0 .. 40 MEMBERS, from 0 on: forty, the last is 39", TermsEdgesTest::trayOfForty);
        terms.holds("BYTES (4; -128 .. 127)", TermsEdgesTest::bytes);
        terms.holds("FLAGS (5; 0, 1)", TermsEdgesTest::flags);
        terms.holds("A new TRAY has 0s", TermsEdgesTest::newNumbers);
        terms.holds("A new TRAY has .. GAPS", TermsEdgesTest::newGaps);
        for (int tray = 6; tray <= 10; tray++) {
            for (int stone = 0; stone <= 4; stone++) {
                takes(terms, tray, stone);
            }
        }
        terms.holds("Stones are numbered from 1 on: the first", TermsEdgesTest::firstStone);
        terms.holds("as they are made: numbers of one digit, two and three", TermsEdgesTest::manyStones);
        terms.holds("at most 512 calls: the last of them", TermsEdgesTest::lastCall);
        terms.end();
    }

    private static void takes(Sentences terms, int tray, int stone) {
        boolean taken = TAKEN[tray - 6].indexOf('0' + stone) >= 0;
        String sentence = "A TRAY of stones takes those that it is named for, and GAPS: tray " + tray + ", stone " + stone;
        terms.holds(sentence, check -> {
            SetterBench bench = new SetterBench();
            bench.lay(0, tray, 3);
            check.due("put(0, 1, " + stone + ")", bench.put(0, 1, stone), taken ? 0 : 10);
            check.members("put", bench, 0, 0, taken && stone != 0 ? 10 + stone : 0, 0);
            SetterBench other = new SetterBench();
            Benches.layStones(other, 6, Benches.STONES, stone);
            other.lay(7, tray, 1);
            check.due("sweep(6, 0, 7, 0, 1)", other.sweep(6, 0, 7, 0, 1), taken ? 0 : 10);
            check.members("swept", other, 7, taken && stone != 0 ? 10 + stone : 0);
        });
    }

    private static void aThingOnEachPlace(Check check) {
        SetterBench bench = new SetterBench();
        for (int p = 0; p < 8; p++) {
            bench.lay(p, Benches.INTS, p + 1);
            bench.set(p, p, 100 + p);
        }
        for (int p = 0; p < 8; p++) {
            check.due("thing(" + p + ", 1)", bench.thing(p, 1), p + 1);
            check.due("thing(" + p + ", 2)", bench.thing(p, 2), p);
            check.due("member(" + p + ", " + p + ")", bench.member(p, p), 100 + p);
        }
    }

    private static void nothingAtFirst(Check check) {
        for (int p = 0; p < 8; p++) {
            check.due("thing(" + p + ", 0)", new SetterBench().thing(p, 0), 0);
        }
    }

    private static void oneThingOnAll(Check check) {
        SetterBench bench = new SetterBench();
        bench.lay(7, Benches.INTS, 2);
        for (int p = 0; p < 7; p++) {
            bench.share(7, p);
        }
        bench.set(3, 1, 9);
        for (int p = 0; p < 8; p++) {
            check.members("on " + p, bench, p, 0, 9);
            check.due("thing(" + p + ", 2)", bench.thing(p, 2), 0);
        }
    }

    private static void trayOfNone(Check check) {
        for (int sort = 2; sort <= 10; sort++) {
            SetterBench bench = new SetterBench();
            check.due("lay(0, " + sort + ", 0)", bench.lay(0, sort, 0), true);
            check.due("thing(0, 0)", bench.thing(0, 0), sort);
            check.due("thing(0, 1)", bench.thing(0, 1), 0);
            check.due("member(0, 0)", bench.member(0, 0), -1);
        }
    }

    private static void trayOfForty(Check check) {
        for (int sort = 2; sort <= 10; sort++) {
            SetterBench bench = new SetterBench();
            check.due("lay(0, " + sort + ", 40)", bench.lay(0, sort, 40), true);
            check.due("thing(0, 1)", bench.thing(0, 1), 40);
            for (int i = 0; i < 40; i++) {
                check.due("member(0, " + i + ")", bench.member(0, i), 0);
            }
            check.due("member(0, 40)", bench.member(0, 40), -1);
            check.due("member(0, -1)", bench.member(0, -1), -1);
        }
    }

    private static void bytes(Check check) {
        for (int v = -600; v <= 600; v++) {
            SetterBench bench = new SetterBench();
            Benches.layNumbers(bench, 0, Benches.BYTES, v);
            long member = bench.member(0, 0);
            check.due("a byte of " + v + " is -128 .. 127", member >= -128 && member <= 127, true);
            check.due("a byte of " + v + " as it is", member == v, v >= -128 && v <= 127);
        }
    }

    private static void flags(Check check) {
        for (int v = -5; v <= 5; v++) {
            SetterBench bench = new SetterBench();
            Benches.layNumbers(bench, 0, Benches.FLAGS, v);
            check.due("a flag of " + v, bench.member(0, 0), Math.floorMod(v, 2));
        }
    }

    private static void newNumbers(Check check) {
        for (int sort = 2; sort <= 5; sort++) {
            SetterBench bench = new SetterBench();
            Benches.layNumbers(bench, 0, sort, 1, 3, 5);
            bench.lay(0, sort, 3);
            check.members("new in place of another of sort " + sort, bench, 0, 0, 0, 0);
        }
    }

    private static void newGaps(Check check) {
        for (int sort = 6; sort <= 10; sort++) {
            int stone = sort == Benches.PEARLS ? Benches.PEARL : Benches.RUBY;
            SetterBench bench = new SetterBench();
            Benches.layStones(bench, 0, sort, stone, stone, stone);
            bench.lay(0, sort, 3);
            check.members("new in place of another of sort " + sort, bench, 0, 0, 0, 0);
            check.due("worth(0)", bench.worth(0), 0);
        }
    }

    private static void firstStone(Check check) {
        for (int stone = 1; stone <= 4; stone++) {
            SetterBench bench = new SetterBench();
            Benches.layStones(bench, 0, Benches.STONES, stone);
            check.due("member(0, 0)", bench.member(0, 0), 10 + stone);
        }
    }

    private static void manyStones(Check check) {
        SetterBench bench = new SetterBench();
        bench.lay(0, Benches.STONES, 1);
        for (int number = 1; number <= 240; number++) {
            int stone = 1 + number % 4;
            bench.put(0, 0, stone);
            check.due("stone " + number, bench.member(0, 0), 10 * number + stone);
        }
    }

    private static void lastCall(Check check) {
        SetterBench bench = new SetterBench();
        bench.lay(0, Benches.RUBIES, 40);
        for (int call = 2; call <= 511; call++) {
            check.due("call " + call, bench.put(0, call % 40, Benches.RUBY), 0);
        }
        check.due("call 512: member(0, 31), put last", bench.member(0, 511 % 40), 5103);
    }
}
