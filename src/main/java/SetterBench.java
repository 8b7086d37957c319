/**
 * A setter's bench: eight places with trays of stones or numbers, a lamp, or nothing.
 * Runs of members are swept from one tray to another one, and the last sweep can be taken back.
 */
public final class SetterBench {
    public static final int NONE = -1;

    private static final int PLACES = 8;
    private static final int MOST_MEMBERS = 40;

    /* The sorts of things, trays of stones from STONES on. INTS, 2, needs no name: its numbers are set as they are. */
    private static final int NOTHING = 0;
    private static final int LAMP = 1;
    private static final int LONGS = 3;
    private static final int BYTES = 4;
    private static final int FLAGS = 5;
    private static final int STONES = 6;
    private static final int GEMS = 7;
    private static final int RUBIES = 8;
    private static final int PEARLS = 9;
    private static final int ROUND_ONES = 10;

    /* The sorts of stones. */
    private static final int GAP = 0;
    private static final int PLAIN = 1;
    private static final int GEM = 2;
    private static final int RUBY = 3;
    private static final int PEARL = 4;

    /* The answers of a sweep; one that stopped adds how many it carried. */
    private static final int DONE = 0;
    private static final int EMPTY = 1;
    private static final int UNLIKE = 2;
    private static final int BEYOND = 3;
    private static final int STOPPED = 10;

    private static final long LONGS_FACTOR = 1000003L;
    private static final int STONE_STEP = 10;
    private static final int ROUND_PAIR_WORTH = 5;

    /** Null where NOTHING lies. */
    private final Thing[] places;
    private final Tray hand;

    /* One row serves all sweeps, since only the last one can be taken back. */
    private final long[] kept;
    /** Null when nothing is kept; a tray without members can be kept, too. */
    private Tray keptTray;

    private int stonesMade;
    private int doneSweeps;
    private int emptySweeps;
    private int unlikeSweeps;
    private int beyondSweeps;
    private int stoppedSweeps;
    private int carriedMembers;

    public SetterBench() {
        places = new Thing[PLACES];
        hand = new Tray(STONES, 1);
        kept = new long[MOST_MEMBERS];
    }

    public boolean lay(int p, int sort, int n) {
        if (!isPlace(p) || sort < NOTHING || sort > ROUND_ONES) {
            return false;
        }
        if (sort == NOTHING) {
            places[p] = null;
            return true;
        }
        if (sort == LAMP) {
            places[p] = new Lamp();
            return true;
        }
        if (n < 0 || n > MOST_MEMBERS) {
            return false;
        }
        places[p] = new Tray(sort, n);
        return true;
    }

    public boolean share(int p, int q) {
        if (!isPlace(p) || !isPlace(q)) {
            return false;
        }
        places[q] = places[p];
        return true;
    }

    public int set(int p, int i, int v) {
        if (!isPlace(p)) {
            return NONE;
        }
        if (places[p] == null) {
            return EMPTY;
        }
        Tray tray = asTray(places[p]);
        if (tray == null || tray.isOfStones()) {
            return UNLIKE;
        }
        return tray.write(i, numberFor(tray.sort, v)) ? DONE : BEYOND;
    }

    public int put(int p, int i, int sort) {
        if (!isPlace(p) || sort < GAP || sort > PEARL) {
            return NONE;
        }
        hand.write(0, newStone(sort));
        return sweepThings(hand, 0, places[p], i, 1, false);
    }

    public int sweep(int p, int i, int q, int j, int n) {
        if (!isPlace(p) || !isPlace(q)) {
            return NONE;
        }
        return sweepThings(places[p], i, places[q], j, n, true);
    }

    public int back() {
        if (keptTray == null) {
            return NONE;
        }
        Tray tray = keptTray;
        keptTray = null;
        tray.copyFrom(kept);
        return tray.size();
    }

    public int light(int p) {
        if (isPlace(p) && places[p] instanceof Lamp lamp) {
            lamp.timesLit++;
            return lamp.timesLit;
        }
        return NONE;
    }

    public long member(int p, int i) {
        Tray tray = trayOn(p);
        return tray == null ? NONE : tray.read(i);
    }

    public int thing(int p, int what) {
        if (!isPlace(p)) {
            return NONE;
        }
        Thing lying = places[p];
        switch (what) {
            case 0:
                return lying == null ? NOTHING : lying.sort;
            case 1:
                return sizeOf(lying);
            case 2:
                return lying == null ? p : leastPlaceOf(lying);
            default:
                return NONE;
        }
    }

    public int worth(int p) {
        Tray tray = trayOn(p);
        if (tray == null || !tray.isOfStones()) {
            return NONE;
        }
        int sum = 0;
        int before = GAP;
        for (int i = 0; i < tray.size(); i++) {
            int stone = tray.stoneSortAt(i);
            sum += worthOfStone(stone);
            if (stone == before && isRound(stone)) {
                sum += ROUND_PAIR_WORTH;
            }
            before = stone;
        }
        return sum;
    }

    public boolean mirror(int p, int q) {
        Tray one = trayOn(p);
        Tray other = trayOn(q);
        if (one == null || other == null || !one.isOfStones() || !other.isOfStones()) {
            return false;
        }
        int size = one.size();
        if (other.size() != size) {
            return false;
        }
        for (int i = 0; i < size; i++) {
            if (one.stoneSortAt(i) != other.stoneSortAt(size - 1 - i)) {
                return false;
            }
        }
        return true;
    }

    public int count(int what) {
        switch (what) {
            case 0:
                return stonesMade;
            case 1:
                return doneSweeps;
            case 2:
                return emptySweeps;
            case 3:
                return unlikeSweeps;
            case 4:
                return beyondSweeps;
            case 5:
                return stoppedSweeps;
            case 6:
                return carriedMembers;
            default:
                return NONE;
        }
    }

    private static boolean isPlace(int p) {
        return p >= 0 && p < PLACES;
    }

    private static Tray asTray(Thing lying) {
        return lying instanceof Tray tray ? tray : null;
    }

    private static int sizeOf(Thing lying) {
        Tray tray = asTray(lying);
        return tray == null ? 0 : tray.size();
    }

    /** Null when there is no such place, or no tray lies there. */
    private Tray trayOn(int p) {
        return isPlace(p) ? asTray(places[p]) : null;
    }

    private int leastPlaceOf(Thing lying) {
        for (int q = 0; q < PLACES; q++) {
            if (places[q] == lying) {
                return q;
            }
        }
        return NONE;
    }

    private static long numberFor(int sort, int v) {
        switch (sort) {
            case LONGS:
                return v * LONGS_FACTOR;
            case BYTES:
                return (byte) v;
            case FLAGS:
                return v & 1;
            default:
                return v;
        }
    }

    /** What stands for the stone in a tray: the very number that member() answers. */
    private long newStone(int sort) {
        if (sort == GAP) {
            return GAP;
        }
        stonesMade++;
        return (long) STONE_STEP * stonesMade + sort;
    }

    private int sweepThings(Thing from, int i, Thing to, int j, int n, boolean keeping) {
        int answer = sweepOrRefuse(from, i, to, j, n, keeping);
        tally(answer);
        return answer;
    }

    private int sweepOrRefuse(Thing from, int i, Thing to, int j, int n, boolean keeping) {
        if (from == null || to == null) {
            return EMPTY;
        }
        Tray source = asTray(from);
        Tray target = asTray(to);
        if (source == null || target == null || !source.isLike(target)) {
            return UNLIKE;
        }
        if (!source.hasRun(i, n) || !target.hasRun(j, n)) {
            return BEYOND;
        }
        if (keeping) {
            keep(target);
        }
        int taken = target.howManyTaken(source, i, n);
        target.copyRun(source, i, j, taken);
        carriedMembers += taken;
        return taken == n ? DONE : STOPPED + taken;
    }

    private void keep(Tray tray) {
        tray.copyTo(kept);
        keptTray = tray;
    }

    private void tally(int answer) {
        switch (answer) {
            case DONE:
                doneSweeps++;
                break;
            case EMPTY:
                emptySweeps++;
                break;
            case UNLIKE:
                unlikeSweeps++;
                break;
            case BEYOND:
                beyondSweeps++;
                break;
            default:
                stoppedSweeps++;
                break;
        }
    }

    private static boolean isRound(int stone) {
        return stone == RUBY || stone == PEARL;
    }

    private static int worthOfStone(int stone) {
        switch (stone) {
            case PLAIN:
                return 1;
            case GEM:
                return 4;
            case RUBY:
                return 20;
            case PEARL:
                return 15;
            default:
                return 0;
        }
    }

    private abstract static class Thing {
        final int sort;

        Thing(int sort) {
            this.sort = sort;
        }
    }

    private static final class Lamp extends Thing {
        int timesLit;

        Lamp() {
            super(LAMP);
        }
    }

    /** A stone is held as ten times its number and its sort, a gap as 0, so all trays are rows of longs. */
    private static final class Tray extends Thing {
        private final long[] cells;

        /** Whoever calls has tested the size, since a constructor must not throw. */
        Tray(int sort, int size) {
            super(sort);
            cells = new long[size];
        }

        int size() {
            return cells.length;
        }

        boolean isOfStones() {
            return sort >= STONES;
        }

        boolean isLike(Tray other) {
            return sort == other.sort || (isOfStones() && other.isOfStones());
        }

        /** The end is reckoned as a long, since the sum of two ints may wrap round. */
        boolean hasRun(int start, int n) {
            return start >= 0 && n >= 0 && (long) start + n <= cells.length;
        }

        long read(int i) {
            return hasRun(i, 1) ? cells[i] : NONE;
        }

        boolean write(int i, long cell) {
            if (!hasRun(i, 1)) {
                return false;
            }
            cells[i] = cell;
            return true;
        }

        int stoneSortAt(int i) {
            return hasRun(i, 1) ? (int) (cells[i] % STONE_STEP) : GAP;
        }

        /** How many of the source's run, from its first member on, this tray takes before it refuses one. */
        int howManyTaken(Tray source, int start, int n) {
            if (!isOfStones()) {
                return n;
            }
            for (int k = 0; k < n; k++) {
                if (!takesStone(source.stoneSortAt(start + k))) {
                    return k;
                }
            }
            return n;
        }

        private boolean takesStone(int stone) {
            if (stone == GAP) {
                return true;
            }
            switch (sort) {
                case GEMS:
                    return stone == GEM || stone == RUBY;
                case RUBIES:
                    return stone == RUBY;
                case PEARLS:
                    return stone == PEARL;
                case ROUND_ONES:
                    return isRound(stone);
                default:
                    return true;
            }
        }

        /** System.arraycopy carries the members as they were, also where the tray lies over itself. */
        void copyRun(Tray source, int start, int ownStart, int n) {
            if (source.hasRun(start, n) && hasRun(ownStart, n)) {
                System.arraycopy(source.cells, start, cells, ownStart, n);
            }
        }

        void copyTo(long[] row) {
            if (cells.length <= row.length) {
                System.arraycopy(cells, 0, row, 0, cells.length);
            }
        }

        void copyFrom(long[] row) {
            if (cells.length <= row.length) {
                System.arraycopy(row, 0, cells, 0, cells.length);
            }
        }
    }
}
