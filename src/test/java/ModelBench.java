import java.lang.reflect.Array;

/**
 * The document once more, written for plainness and another way: trays are real Java arrays, stones are objects
 * of real classes, and an array takes what its component type takes.
 */
final class ModelBench {
    interface Round { }

    static class Stone {
        int number;
        int sort;
    }

    static class Gem extends Stone { }

    static final class Ruby extends Gem implements Round { }

    static final class Pearl extends Stone implements Round { }

    static final class Lamp {
        int lit;
    }

    private static final Class<?>[] COMPONENTS = {
        null, null, int.class, long.class, byte.class, boolean.class,
        Stone.class, Gem.class, Ruby.class, Pearl.class, Round.class,
    };
    private static final int[] WORTHS = {0, 1, 4, 20, 15};

    private final Object[] places = new Object[8];
    private final int[] counts = new int[7];
    private Object keptTray;
    private Object keptCopy;

    boolean lay(int p, int sort, int n) {
        if (noPlace(p) || sort < 0 || sort > 10 || (sort >= 2 && (n < 0 || n > 40))) {
            return false;
        }
        places[p] = sort == 0 ? null : sort == 1 ? new Lamp() : Array.newInstance(COMPONENTS[sort], n);
        return true;
    }

    boolean share(int p, int q) {
        if (noPlace(p) || noPlace(q)) {
            return false;
        }
        places[q] = places[p];
        return true;
    }

    int set(int p, int i, int v) {
        if (noPlace(p)) {
            return -1;
        }
        Object tray = places[p];
        if (tray == null) {
            return 1;
        }
        if (!isTray(tray) || tray instanceof Object[]) {
            return 2;
        }
        if (i < 0 || i >= Array.getLength(tray)) {
            return 3;
        }
        if (tray instanceof int[] ints) {
            ints[i] = v;
        } else if (tray instanceof long[] longs) {
            longs[i] = 1000003L * v;
        } else if (tray instanceof byte[] bytes) {
            bytes[i] = (byte) v;
        } else if (tray instanceof boolean[] flags) {
            flags[i] = (v & 1) != 0;
        }
        return 0;
    }

    int put(int p, int i, int sort) {
        if (noPlace(p) || sort < 0 || sort > 4) {
            return -1;
        }
        return counted(swept(new Stone[] {newStone(sort)}, 0, places[p], i, 1, false));
    }

    int sweep(int p, int i, int q, int j, int n) {
        if (noPlace(p) || noPlace(q)) {
            return -1;
        }
        return counted(swept(places[p], i, places[q], j, n, true));
    }

    int back() {
        if (keptTray == null) {
            return -1;
        }
        int size = Array.getLength(keptTray);
        System.arraycopy(keptCopy, 0, keptTray, 0, size);
        keptTray = null;
        return size;
    }

    int light(int p) {
        return !noPlace(p) && places[p] instanceof Lamp lamp ? ++lamp.lit : -1;
    }

    long member(int p, int i) {
        if (noPlace(p) || !isTray(places[p]) || i < 0 || i >= Array.getLength(places[p])) {
            return -1;
        }
        Object got = Array.get(places[p], i);
        if (got == null) {
            return 0;
        }
        if (got instanceof Boolean flag) {
            return flag ? 1 : 0;
        }
        return got instanceof Stone stone ? stone.number * 10 + stone.sort : ((Number) got).longValue();
    }

    int thing(int p, int what) {
        if (noPlace(p) || what < 0 || what > 2) {
            return -1;
        }
        Object thing = places[p];
        if (what == 0) {
            return sortOf(thing);
        }
        if (what == 1) {
            return isTray(thing) ? Array.getLength(thing) : 0;
        }
        int least = p;
        for (int q = p; q >= 0 && thing != null; q--) {
            least = places[q] == thing ? q : least;
        }
        return least;
    }

    int worth(int p) {
        if (noPlace(p) || !(places[p] instanceof Object[] stones)) {
            return -1;
        }
        int sum = 0;
        for (Object stone : stones) {
            sum += WORTHS[stoneSort(stone)];
        }
        for (int i = 0; i + 1 < stones.length; i++) {
            sum += stones[i] instanceof Round && stones[i + 1] != null
                && stones[i].getClass() == stones[i + 1].getClass() ? 5 : 0;
        }
        return sum;
    }

    boolean mirror(int p, int q) {
        if (noPlace(p) || noPlace(q) || !(places[p] instanceof Object[] one) || !(places[q] instanceof Object[] other)) {
            return false;
        }
        boolean same = one.length == other.length;
        for (int i = 0; same && i < one.length; i++) {
            same = stoneSort(one[i]) == stoneSort(other[other.length - 1 - i]);
        }
        return same;
    }

    int count(int what) {
        return what >= 0 && what <= 6 ? counts[what] : -1;
    }

    private static boolean noPlace(int p) {
        return p < 0 || p > 7;
    }

    private static boolean isTray(Object thing) {
        return thing != null && thing.getClass().isArray();
    }

    private static int sortOf(Object thing) {
        if (thing == null) {
            return 0;
        }
        for (int sort = 2; sort <= 10; sort++) {
            if (thing.getClass().getComponentType() == COMPONENTS[sort]) {
                return sort;
            }
        }
        return 1;
    }

    private static int stoneSort(Object stone) {
        return stone == null ? 0 : ((Stone) stone).sort;
    }

    private Stone newStone(int sort) {
        if (sort == 0) {
            return null;
        }
        Stone stone = sort == 1 ? new Stone() : sort == 2 ? new Gem() : sort == 3 ? new Ruby() : new Pearl();
        stone.number = ++counts[0];
        stone.sort = sort;
        return stone;
    }

    private int swept(Object from, int i, Object to, int j, int n, boolean keeping) {
        if (from == null || to == null) {
            return 1;
        }
        boolean stones = from instanceof Object[] && to instanceof Object[];
        if (!isTray(from) || !isTray(to) || (!stones && from.getClass() != to.getClass())) {
            return 2;
        }
        if (i < 0 || j < 0 || n < 0 || n > Array.getLength(from) - i || n > Array.getLength(to) - j) {
            return 3;
        }
        if (keeping) {
            keptTray = to;
            keptCopy = copyOf(to);
        }
        Object ahead = copyOf(from);
        for (int k = 0; k < n; k++) {
            Object carried = Array.get(ahead, i + k);
            if (stones && carried != null && !to.getClass().getComponentType().isInstance(carried)) {
                return 10 + k;
            }
            Array.set(to, j + k, carried);
            counts[6]++;
        }
        return 0;
    }

    private static Object copyOf(Object tray) {
        int size = Array.getLength(tray);
        Object copy = Array.newInstance(tray.getClass().getComponentType(), size);
        System.arraycopy(tray, 0, copy, 0, size);
        return copy;
    }

    private int counted(int answer) {
        counts[Math.min(answer, 4) + 1]++;
        return answer;
    }
}
