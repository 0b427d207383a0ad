import java.util.ArrayList;
import java.util.List;
import java.util.Random;

/**
 * Long runs of calls, each answer against that of a second program that finds the guards in another way: an object's guards are
 * itself and what is common to the guards of all that refer to it, narrowed down until nothing changes.
 */
public final class ModelTest {
    private static final int OBJECTS = 16;
    private static final int CALLS = 512;
    private static final int RUNS = 150;
    private static final int[] WRONG = {-1, 16, 17, -16, 32, 48, Integer.MIN_VALUE, Integer.MAX_VALUE};

    private final int[] size = new int[OBJECTS];
    private final boolean[][] refers = new boolean[OBJECTS][OBJECTS];
    private final boolean[] root = new boolean[OBJECTS];
    private final KeepTree tree = new KeepTree();
    private final Random random;
    private final int used;
    private final int mostReferences;
    private boolean[][] guards;

    private ModelTest(int run) {
        random = new Random(run);
        used = 2 + run % 15;
        mostReferences = 1 + used + random.nextInt(2 * used);
    }

    public static void main(String[] args) {
        for (int run = 0; run < RUNS; run++) {
            ModelTest test = new ModelTest(run);
            for (int call = 1; call <= CALLS; call++) {
                test.oneCall("run " + run + ", call " + call + ": ");
            }
        }
        Checks.end();
    }

    private void oneCall(String where) {
        int a = someObject();
        int b = someObject();
        boolean refusedA = a < 0 || a >= OBJECTS;
        boolean refused = refusedA || b < 0 || b >= OBJECTS;
        guards = guardTable();
        switch (random.nextInt(15)) {
            case 0 -> checkSetSize(where, a, refusedA);
            case 1 -> checkSetRoot(where, a, refusedA);
            case 2, 3, 4, 5 -> checkFlip(where, a, b, refused);
            case 6 -> Checks.due(where + "alive(" + a + ")", tree.alive(a), refusedA ? -2 : guards[a][a] ? 1 : 0);
            case 7, 8 -> Checks.due(where + "keeper(" + a + ")", tree.keeper(a), refusedA ? -2 : last(guardsOf(a, true)));
            case 9 -> Checks.due(where + "held(" + a + ")", tree.held(a), refusedA ? -2 : heldBy(a));
            case 10 -> Checks.due(where + "guards(" + a + ", " + b + ")", tree.guards(a, b), refused ? -2 : guards[a][b] ? 1 : 0);
            case 11 -> Checks.due(where + "depth(" + a + ")", tree.depth(a), refusedA ? -2 : guardsOf(a, false).size());
            case 12 -> Checks.due(where + "common(" + a + ", " + b + ")", tree.common(a, b), refused ? -2 : commonOf(a, b));
            case 13 -> Checks.due(where + "heaviest()", tree.heaviest(), heaviestOf());
            default -> Checks.due(where + "total()", tree.total(), totalOf());
        }
    }

    private int someObject() {
        return random.nextInt(40) == 0 ? WRONG[random.nextInt(WRONG.length)] : OBJECTS - 1 - random.nextInt(used);
    }

    private void checkSetSize(String where, int object, boolean refused) {
        int given = random.nextInt(6) == 0 ? random.nextInt() : random.nextInt(4) * 400 - 100;
        Checks.due(where + "setSize(" + object + ", " + given + ")", tree.setSize(object, given), refused ? -2 : size[object]);
        if (!refused) {
            size[object] = Math.max(0, Math.min(1000, given));
        }
    }

    private void checkSetRoot(String where, int object, boolean refused) {
        boolean given = random.nextInt(3) == 0;
        Checks.due(where + "setRoot(" + object + ", " + given + ")", tree.setRoot(object, given), refused ? -2 : root[object] ? 1 : 0);
        if (!refused) {
            root[object] = given;
        }
    }

    private void checkFlip(String where, int from, int to, boolean refused) {
        List<int[]> there = new ArrayList<>();
        for (int i = 0; i < OBJECTS; i++) {
            for (int j = 0; j < OBJECTS; j++) {
                if (refers[i][j]) {
                    there.add(new int[] {i, j});
                }
            }
        }
        // Where every object refers to most others hardly any guards another: such a run would tell little.
        if (!refused && there.size() >= mostReferences) {
            int[] taken = there.get(random.nextInt(there.size()));
            from = taken[0];
            to = taken[1];
        }
        int want = refused ? -2 : refers[from][to] ? 0 : 1;
        Checks.due(where + "flip(" + from + ", " + to + ")", tree.flip(from, to), want);
        if (!refused) {
            refers[from][to] = !refers[from][to];
        }
    }

    private boolean[] livingObjects() {
        boolean[] living = root.clone();
        boolean grown = true;
        while (grown) {
            grown = false;
            for (int i = 0; i < OBJECTS; i++) {
                for (int j = 0; j < OBJECTS; j++) {
                    if (living[i] && refers[i][j] && !living[j]) {
                        living[j] = true;
                        grown = true;
                    }
                }
            }
        }
        return living;
    }

    /** At [k][o]: whether k guards o. */
    private boolean[][] guardTable() {
        boolean[] living = livingObjects();
        boolean[][] table = new boolean[OBJECTS][OBJECTS];
        for (int k = 0; k < OBJECTS; k++) {
            for (int o = 0; o < OBJECTS; o++) {
                table[k][o] = living[o] && living[k] && (k == o || !root[o]);
            }
        }
        boolean narrowed = true;
        while (narrowed) {
            narrowed = false;
            for (int from = 0; from < OBJECTS; from++) {
                for (int k = 0; k < OBJECTS; k++) {
                    for (int o = 0; o < OBJECTS; o++) {
                        if (living[from] && refers[from][o] && k != o && table[k][o] && !table[k][from]) {
                            table[k][o] = false;
                            narrowed = true;
                        }
                    }
                }
            }
        }
        return table;
    }

    private List<Integer> guardsOf(int object, boolean othersAlone) {
        List<Integer> found = new ArrayList<>();
        for (int k = 0; k < OBJECTS; k++) {
            if (guards[k][object] && !(othersAlone && k == object)) {
                found.add(k);
            }
        }
        return found;
    }

    private int last(List<Integer> some) {
        int found = -1;
        for (int candidate : some) {
            if (some.stream().allMatch(k -> guards[k][candidate])) {
                if (found != -1) {
                    throw new IllegalStateException("two last guards: " + found + " and " + candidate);
                }
                found = candidate;
            }
        }
        if (found == -1 && !some.isEmpty()) {
            throw new IllegalStateException("no last guard of " + some);
        }
        return found;
    }

    private int commonOf(int a, int b) {
        List<Integer> both = guardsOf(a, false);
        both.retainAll(guardsOf(b, false));
        return last(both);
    }

    private int heldBy(int object) {
        int sum = 0;
        for (int o = 0; o < OBJECTS; o++) {
            sum += guards[object][o] ? size[o] : 0;
        }
        return sum;
    }

    private int heaviestOf() {
        int best = -1;
        for (int o = OBJECTS - 1; o >= 0; o--) {
            boolean stands = guards[o][o] && last(guardsOf(o, true)) == -1;
            if (stands && (best == -1 || heldBy(o) >= heldBy(best))) {
                best = o;
            }
        }
        return best;
    }

    private int totalOf() {
        int sum = 0;
        for (int o = 0; o < OBJECTS; o++) {
            sum += guards[o][o] ? size[o] : 0;
        }
        return sum;
    }
}
