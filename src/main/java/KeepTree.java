// Every set of objects in here is a bit mask: bit i stands for object i.
public final class KeepTree {
    private static final int OBJECTS = 16;
    private static final int MOST_SIZE = 1000;
    private static final int NONE = -1;
    private static final int REFUSED = -2;

    private final int[] sizes = new int[OBJECTS];
    // references[i] is the set of the objects that object i refers to.
    private final int[] references = new int[OBJECTS];
    private int roots = 0;

    public KeepTree() {
    }

    public int setSize(int object, int size) {
        if (!isObject(object)) {
            return REFUSED;
        }
        int before = sizes[object];
        sizes[object] = allowedSize(size);
        return before;
    }

    public int flip(int from, int to) {
        if (!isObject(from) || !isObject(to)) {
            return REFUSED;
        }
        references[from] ^= 1 << to;
        return bitOf(references[from], to);
    }

    public int setRoot(int object, boolean root) {
        if (!isObject(object)) {
            return REFUSED;
        }
        int before = bitOf(roots, object);
        if (root) {
            roots |= 1 << object;
        } else {
            roots &= ~(1 << object);
        }
        return before;
    }

    public int alive(int object) {
        if (!isObject(object)) {
            return REFUSED;
        }
        int living = aliveWithout(0);
        return bitOf(living, object);
    }

    public int keeper(int object) {
        if (!isObject(object)) {
            return REFUSED;
        }
        int others = guardsOf(object) & ~(1 << object);
        return lastGuard(others);
    }

    public int held(int object) {
        if (!isObject(object)) {
            return REFUSED;
        }
        int guarded = guardedBy(object);
        return sizeOf(guarded);
    }

    public int guards(int k, int o) {
        if (!isObject(k) || !isObject(o)) {
            return REFUSED;
        }
        int guarded = guardedBy(k);
        return bitOf(guarded, o);
    }

    public int depth(int object) {
        if (!isObject(object)) {
            return REFUSED;
        }
        int guardSet = guardsOf(object);
        return countOf(guardSet);
    }

    public int common(int a, int b) {
        if (!isObject(a) || !isObject(b)) {
            return REFUSED;
        }
        int both = guardsOf(a) & guardsOf(b);
        return lastGuard(both);
    }

    public int heaviest() {
        int best = NONE;
        int bestSize = -1;
        for (int object = 0; object < OBJECTS; object++) {
            // An object that is not alive has no guard at all, so this leaves it out too.
            if (guardsOf(object) == 1 << object) {
                int guarded = guardedBy(object);
                int size = sizeOf(guarded);
                if (size > bestSize) {
                    best = object;
                    bestSize = size;
                }
            }
        }
        return best;
    }

    public int total() {
        int living = aliveWithout(0);
        return sizeOf(living);
    }

    private static boolean isObject(int number) {
        return number >= 0 && number < OBJECTS;
    }

    private static int allowedSize(int size) {
        if (size < 0) {
            return 0;
        }
        return size > MOST_SIZE ? MOST_SIZE : size;
    }

    private static int bitOf(int set, int object) {
        return (set >> object) & 1;
    }

    private static int countOf(int set) {
        int count = 0;
        for (int object = 0; object < OBJECTS; object++) {
            count += bitOf(set, object);
        }
        return count;
    }

    private int sizeOf(int set) {
        int sum = 0;
        for (int object = 0; object < OBJECTS; object++) {
            if (bitOf(set, object) == 1) {
                sum += sizes[object];
            }
        }
        return sum;
    }

    // The objects that would be alive if those in the set taken were not there.
    private int aliveWithout(int taken) {
        int living = roots & ~taken;
        // A way from a root that visits no object twice has fewer steps than there are objects.
        for (int step = 0; step < OBJECTS; step++) {
            for (int object = 0; object < OBJECTS; object++) {
                if (bitOf(living, object) == 1) {
                    living |= references[object] & ~taken;
                }
            }
        }
        return living;
    }

    private int guardedBy(int object) {
        return aliveWithout(0) & ~aliveWithout(1 << object);
    }

    private int guardsOf(int object) {
        int found = 0;
        for (int guard = 0; guard < OBJECTS; guard++) {
            int guarded = guardedBy(guard);
            found |= bitOf(guarded, object) << guard;
        }
        return found;
    }

    // Of a set of guards, the one that all the others guard.
    private int lastGuard(int set) {
        for (int object = 0; object < OBJECTS; object++) {
            if (bitOf(set, object) == 1 && (set & ~guardsOf(object)) == 0) {
                return object;
            }
        }
        return NONE;
    }
}
