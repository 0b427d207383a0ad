import java.util.LinkedHashMap;
import java.util.List;
import java.util.Map;
import java.util.function.Supplier;
import java.util.function.ToIntFunction;

/** Each sentence of 'What it is' and 'Terms' that names a boundary case, in a test of its own. */
public final class TermsEdgesTest {
    private static final int OBJECTS = Trees.OBJECTS;
    /** Beside the nearest and the farthest: numbers that a mask, a shift, a byte or a short would take for 0, 3 or 15. */
    private static final int[] WRONG = {
        -1, 16, Integer.MIN_VALUE, Integer.MAX_VALUE, 31, 32, 35, 19, -13, -16, 64, 256 + 3, 65536 + 3, -256, -65536
    };

    private TermsEdgesTest() {
    }

    public static void main(String[] args) {
        atMost512Calls();
        numbers0To15();
        otherNumbersAreRefused();
        refusedCallsChangeNothing();
        sizesFrom0To1000();
        sizes0InAFreshObject();
        referencesToItself();
        oneReferenceInOneDirection();
        noRootsAndAllRoots();
        aliveIfARoot();
        aliveAlongReferences();
        guardsWithReferencesTakenAway();
        guardsWhenARootIsTakenAway();
        everyAliveObjectGuardsItself();
        notAliveGuardsNone();
        keeperIsGuardedByAllOthers();
        keeperIsLastOnEveryWay();
        noOtherGuardNoKeeper();
        heldIsAtMost16000();
        Checks.end();
    }

    /** Every call of the document's face, on the long chain, with its answer there. */
    private static Map<ToIntFunction<KeepTree>, Integer> answersOfTheLongChain() {
        Map<ToIntFunction<KeepTree>, Integer> due = new LinkedHashMap<>();
        due.put(x -> x.setSize(7, 5), 1000);
        due.put(x -> x.flip(0, 1), 0);
        due.put(x -> x.flip(15, 0), 1);
        due.put(x -> x.setRoot(0, false), 1);
        due.put(x -> x.setRoot(15, true), 0);
        due.put(x -> x.alive(15), 1);
        due.put(x -> x.keeper(15), 14);
        due.put(x -> x.held(0), 16000);
        due.put(x -> x.guards(0, 15), 1);
        due.put(x -> x.depth(15), 16);
        due.put(x -> x.common(14, 15), 14);
        due.put(x -> x.heaviest(), 0);
        due.put(x -> x.total(), 16000);
        due.put(x -> x.alive(16), -2);
        return due;
    }

    private static void atMost512Calls() {
        Checks.sentence("An object is used for at most 512 calls after it has been made");
        List<ToIntFunction<KeepTree>> fillers = List.of(
                x -> x.total(), x -> x.alive(16), x -> x.flip(3, 3), x -> x.setRoot(0, true), x -> x.setSize(4, 1000));
        for (ToIntFunction<KeepTree> filler : fillers) {
            int row = 0;
            for (Map.Entry<ToIntFunction<KeepTree>, Integer> call : answersOfTheLongChain().entrySet()) {
                KeepTree x = Trees.longChain();
                for (int calls = 32; calls < 511; calls++) {
                    filler.applyAsInt(x);
                }
                Checks.due("the 512th call, row " + row++, call.getKey().applyAsInt(x), call.getValue());
            }
        }
        // What later calls answer is free, but LANGUAGE.md (rule 7) has none of them throw: that would end this test.
        KeepTree spent = Trees.full();
        for (int calls = 0; calls < 2000; calls++) {
            for (ToIntFunction<KeepTree> call : answersOfTheLongChain().keySet()) {
                call.applyAsInt(spent);
            }
        }
    }

    private static void numbers0To15() {
        Checks.sentence("OBJECTS are numbered 0 to 15");
        for (int[] pair : new int[][] {{0, 15}, {15, 0}}) {
            int a = pair[0];
            int b = pair[1];
            String on = " on " + a + " and " + b;
            KeepTree x = new KeepTree();
            Checks.due("setSize, first" + on, x.setSize(a, 40), 0);
            Checks.due("setSize, second" + on, x.setSize(b, 2), 0);
            Checks.due("setRoot" + on, x.setRoot(a, true), 0);
            Checks.due("flip" + on, x.flip(a, b), 1);
            Checks.due("alive, first" + on, x.alive(a), 1);
            Checks.due("alive, second" + on, x.alive(b), 1);
            Checks.due("keeper" + on, x.keeper(b), a);
            Checks.due("held, first" + on, x.held(a), 42);
            Checks.due("held, second" + on, x.held(b), 2);
            Checks.due("guards" + on, x.guards(a, b), 1);
            Checks.due("guards, back" + on, x.guards(b, a), 0);
            Checks.due("depth" + on, x.depth(b), 2);
            Checks.due("common" + on, x.common(a, b), a);
            Checks.due("common of the second with itself" + on, x.common(b, b), b);
            Checks.due("heaviest" + on, x.heaviest(), a);
            Checks.due("total" + on, x.total(), 42);
        }
    }

    /** Every call that takes an object number, with the wrong one in each place. */
    private static List<ToIntFunction<KeepTree>> callsWith(int wrong) {
        return List.of(
                x -> x.setSize(wrong, 77), x -> x.setSize(wrong, -1), x -> x.setSize(wrong, 1001), x -> x.setSize(wrong, 0),
                x -> x.flip(wrong, 3), x -> x.flip(3, wrong), x -> x.flip(wrong, wrong), x -> x.flip(wrong, -2),
                x -> x.setRoot(wrong, true), x -> x.setRoot(wrong, false),
                x -> x.alive(wrong), x -> x.keeper(wrong), x -> x.held(wrong), x -> x.depth(wrong),
                x -> x.guards(wrong, 3), x -> x.guards(3, wrong), x -> x.guards(wrong, wrong), x -> x.guards(wrong, 17),
                x -> x.common(wrong, 3), x -> x.common(3, wrong), x -> x.common(wrong, wrong), x -> x.common(wrong, 17));
    }

    private static List<Supplier<KeepTree>> makers() {
        return List.of(KeepTree::new, Trees::mixed, Trees::full);
    }

    private static void otherNumbersAreRefused() {
        Checks.sentence("An object number that is not from 0 to 15 is refused: the call answers -2");
        for (Supplier<KeepTree> maker : makers()) {
            for (int wrong : WRONG) {
                KeepTree x = maker.get();
                int row = 0;
                for (ToIntFunction<KeepTree> call : callsWith(wrong)) {
                    Checks.due("call " + row++ + " with " + wrong, call.applyAsInt(x), -2);
                }
            }
        }
    }

    private static void refusedCallsChangeNothing() {
        Checks.sentence("and changes nothing");
        for (Supplier<KeepTree> maker : makers()) {
            int[] untouched = Trees.stateOf(maker);
            for (int wrong : WRONG) {
                int row = 0;
                // Each on an object of its own: two wrong flips would hide each other.
                for (ToIntFunction<KeepTree> call : callsWith(wrong)) {
                    int[] touched = Trees.stateOf(() -> {
                        KeepTree x = maker.get();
                        call.applyAsInt(x);
                        return x;
                    });
                    Checks.due("places changed by call " + row++ + " with " + wrong, differences(untouched, touched), 0);
                }
            }
        }
    }

    private static int differences(int[] one, int[] other) {
        int found = 0;
        for (int i = 0; i < one.length; i++) {
            found += one[i] == other[i] ? 0 : 1;
        }
        return found;
    }

    private static void sizesFrom0To1000() {
        Checks.sentence("Each has a size from 0 to 1000");
        for (int object = 0; object < OBJECTS; object++) {
            KeepTree x = new KeepTree();
            x.setRoot(object, true);
            x.setSize(object, 1000);
            Checks.due("held(" + object + ") of the greatest", x.held(object), 1000);
            x.setSize(object, 999);
            Checks.due("held(" + object + ") of the one below", x.held(object), 999);
            x.setSize(object, 1);
            Checks.due("held(" + object + ") of the one above the least", x.held(object), 1);
            x.setSize(object, 0);
            Checks.due("held(" + object + ") of the least", x.held(object), 0);
        }
    }

    private static void sizes0InAFreshObject() {
        Checks.sentence("(0 in a fresh object of this class)");
        for (int object = 0; object < OBJECTS; object++) {
            KeepTree x = new KeepTree();
            x.setRoot(object, true);
            Checks.due("held(" + object + ")", x.held(object), 0);
            Checks.due("total()", x.total(), 0);
            Checks.due("setSize(" + object + ", 0)", x.setSize(object, 0), 0);
        }
    }

    private static void referencesToItself() {
        Checks.sentence("From an object there are references to other objects or to itself");
        for (int object = 0; object < OBJECTS; object++) {
            int behind = (object + 1) % OBJECTS;
            KeepTree x = new KeepTree();
            Checks.due("flip to itself, " + object, x.flip(object, object), 1);
            Checks.due("alive(" + object + "), which only refers to itself", x.alive(object), 0);
            Checks.due("depth(" + object + "), which only refers to itself", x.depth(object), 0);
            x.setRoot(object, true);
            x.flip(object, behind);
            x.flip(behind, behind);
            Checks.due("keeper(" + object + ")", x.keeper(object), -1);
            Checks.due("depth(" + object + ")", x.depth(object), 1);
            Checks.due("keeper of the one behind " + object, x.keeper(behind), object);
            Checks.due("depth of the one behind " + object, x.depth(behind), 2);
            Checks.due("flip to itself again, " + object, x.flip(object, object), 0);
            Checks.due("flip to the other is there still, " + object, x.flip(object, behind), 0);
        }
    }

    private static void oneReferenceInOneDirection() {
        Checks.sentence("between two objects in one direction there is a reference or there is none");
        KeepTree x = new KeepTree();
        x.setRoot(6, true);
        x.flip(5, 6);
        Checks.due("alive(5): the reference goes the other way", x.alive(5), 0);
        x.flip(6, 5);
        Checks.due("alive(5), both ways", x.alive(5), 1);
        x.flip(5, 6);
        Checks.due("alive(5), the one way taken away", x.alive(5), 1);
        x.flip(6, 5);
        Checks.due("alive(5), both taken away", x.alive(5), 0);
        x.flip(6, 5);
        x.flip(6, 5);
        Checks.due("alive(5): two references are none", x.alive(5), 0);
    }

    private static void noRootsAndAllRoots() {
        Checks.sentence("Some objects are ROOTS");
        KeepTree x = Trees.longChain();
        x.setRoot(0, false);
        x.flip(15, 0);
        for (int object = 0; object < OBJECTS; object++) {
            Checks.due("alive(" + object + "), no roots", x.alive(object), 0);
        }
        for (int object = 0; object < OBJECTS; object++) {
            x.setRoot(object, true);
        }
        for (int object = 0; object < OBJECTS; object++) {
            Checks.due("alive(" + object + "), all roots", x.alive(object), 1);
            Checks.due("depth(" + object + "), all roots", x.depth(object), 1);
            Checks.due("keeper(" + object + "), all roots", x.keeper(object), -1);
            Checks.due("held(" + object + "), all roots", x.held(object), 1000);
        }
    }

    private static void aliveIfARoot() {
        Checks.sentence("An object is ALIVE if it is a root");
        for (int root = 0; root < OBJECTS; root++) {
            KeepTree x = new KeepTree();
            x.setRoot(root, true);
            for (int object = 0; object < OBJECTS; object++) {
                Checks.due("alive(" + object + ") with the root " + root, x.alive(object), object == root ? 1 : 0);
            }
            x.setRoot(root, false);
            Checks.due("alive(" + root + "), no root any more", x.alive(root), 0);
        }
    }

    private static void aliveAlongReferences() {
        Checks.sentence("so exactly those objects are alive that are found from the roots along references");
        int[] order = {9, 2, 15, 0, 7, 14, 1, 8, 3, 12, 5, 10, 4, 13, 6, 11};
        KeepTree x = Trees.chain(order);
        for (int object = 0; object < OBJECTS; object++) {
            Checks.due("alive(" + object + ") in the longest way", x.alive(object), 1);
        }
        x.flip(7, 14);
        for (int i = 0; i < OBJECTS; i++) {
            Checks.due("alive(" + order[i] + ") in the way broken after its fifth", x.alive(order[i]), i < 5 ? 1 : 0);
        }
        x.flip(11, 14);
        Checks.due("alive(14), in a ring that no root leads to", x.alive(14), 0);
        x.flip(11, 9);
        Checks.due("alive(11), which refers to a root", x.alive(11), 0);
    }

    private static void guardsWithReferencesTakenAway() {
        Checks.sentence("would not be alive if k and all references from and to k were taken away");
        KeepTree x = Trees.chain(4, 8, 1);
        Checks.due("guards(8, 1), the only way", x.guards(8, 1), 1);
        x.flip(4, 1);
        Checks.due("guards(8, 1), with a way beside it", x.guards(8, 1), 0);
        Checks.due("guards(4, 1), on both ways", x.guards(4, 1), 1);
        x.flip(1, 8);
        Checks.due("guards(1, 8), which is found without it", x.guards(1, 8), 0);
        x.flip(4, 8);
        Checks.due("guards(1, 8), through which alone it is found now", x.guards(1, 8), 1);
        Checks.due("guards(8, 1), to which it only refers back", x.guards(8, 1), 0);
        Checks.due("guards(1, 4), which is in front of it", x.guards(1, 4), 0);
    }

    private static void guardsWhenARootIsTakenAway() {
        Checks.sentence("(and k was no root)");
        KeepTree x = Trees.chain(4, 8, 1);
        x.flip(1, 4);
        Checks.due("guards(4, 4), a root in a ring", x.guards(4, 4), 1);
        Checks.due("guards(4, 1), behind the root", x.guards(4, 1), 1);
        x.setRoot(8, true);
        Checks.due("guards(4, 4), to which another root leads", x.guards(4, 4), 1);
        Checks.due("guards(4, 8), a root itself", x.guards(4, 8), 0);
        Checks.due("guards(4, 1), behind two roots", x.guards(4, 1), 0);
        Checks.due("guards(8, 1), the second root, on every way", x.guards(8, 1), 1);
        Checks.due("guards(8, 4), a root itself", x.guards(8, 4), 0);
        x.setRoot(1, true);
        Checks.due("guards(8, 1), as a root", x.guards(8, 1), 0);
    }

    private static void everyAliveObjectGuardsItself() {
        Checks.sentence("Every alive object guards itself");
        KeepTree full = Trees.full();
        KeepTree chain = Trees.longChain();
        KeepTree ring = Trees.longChain();
        ring.flip(15, 0);
        for (int object = 0; object < OBJECTS; object++) {
            Checks.due("guards(" + object + ", itself), all referring to all", full.guards(object, object), 1);
            Checks.due("depth(" + object + "), all referring to all", full.depth(object), 1);
            Checks.due("held(" + object + "), all referring to all", full.held(object), 1000);
            Checks.due("common(" + object + ", itself), all referring to all", full.common(object, object), object);
            Checks.due("guards(" + object + ", itself) in a chain", chain.guards(object, object), 1);
            Checks.due("guards(" + object + ", itself) in a ring", ring.guards(object, object), 1);
        }
    }

    private static void notAliveGuardsNone() {
        Checks.sentence("An object that is not alive guards none");
        KeepTree x = Trees.chain(0, 1);
        Trees.giveAllTheSize(x, 9);
        int[][] references = {{5, 0}, {5, 1}, {5, 5}, {5, 6}, {6, 5}, {6, 7}};
        for (int[] reference : references) {
            x.flip(reference[0], reference[1]);
        }
        for (int k = 2; k < OBJECTS; k++) {
            for (int o = 0; o < OBJECTS; o++) {
                Checks.due("guards(" + k + ", " + o + ")", x.guards(k, o), 0);
            }
            Checks.due("held(" + k + ")", x.held(k), 0);
        }
        x.flip(1, 5);
        Checks.due("guards(6, 7), alive now", x.guards(6, 7), 1);
        x.flip(1, 5);
        Checks.due("guards(6, 7), not alive again", x.guards(6, 7), 0);
        Checks.due("guards(0, 5), of which only the other is alive", x.guards(0, 5), 0);
    }

    private static void keeperIsGuardedByAllOthers() {
        Checks.sentence("of the objects other than o that guard o, the one that is guarded by all of them");
        int[][] orders = {
            {0, 1, 2, 3, 4, 5, 6, 7, 8, 9, 10, 11, 12, 13, 14, 15},
            {15, 14, 13, 12, 11, 10, 9, 8, 7, 6, 5, 4, 3, 2, 1, 0},
            {9, 2, 15, 0, 7, 14, 1, 8, 3, 12, 5, 10, 4, 13, 6, 11},
        };
        for (int[] order : orders) {
            KeepTree x = Trees.chain(order);
            for (int i = 1; i < OBJECTS; i++) {
                Checks.due("keeper(" + order[i] + ") in a chain from " + order[0], x.keeper(order[i]), order[i - 1]);
            }
        }
    }

    private static void keeperIsLastOnEveryWay() {
        Checks.sentence("it is the last on every way from a root to o");
        KeepTree x = Trees.chain(12, 3, 9, 5, 14);
        Checks.due("keeper(14) of one way", x.keeper(14), 5);
        x.flip(9, 14);
        Checks.due("keeper(14), a way past 5", x.keeper(14), 9);
        x.flip(3, 14);
        Checks.due("keeper(14), a way past 9", x.keeper(14), 3);
        x.flip(12, 14);
        Checks.due("keeper(14), a way past 3", x.keeper(14), 12);
        x.flip(14, 3);
        Checks.due("keeper(3), to which 14 leads too", x.keeper(3), 12);
        x.setRoot(3, true);
        Checks.due("keeper(14), from two roots that lead to it", x.keeper(14), -1);
        x.flip(12, 14);
        Checks.due("keeper(14), from two roots through 3", x.keeper(14), 3);
    }

    private static void noOtherGuardNoKeeper() {
        Checks.sentence("If no other object guards o, it has no keeper");
        KeepTree x = Trees.chain(0, 7);
        Checks.due("keeper(0), a root", x.keeper(0), -1);
        x.flip(7, 0);
        Checks.due("keeper(0), a root in a ring", x.keeper(0), -1);
        x.setRoot(15, true);
        x.flip(15, 0);
        Checks.due("keeper(0), a root that another root refers to", x.keeper(0), -1);
        x.flip(15, 7);
        Checks.due("keeper(7), to which two roots refer", x.keeper(7), -1);
        x.flip(7, 8);
        Checks.due("keeper(8), behind it", x.keeper(8), 7);
    }

    private static void heldIsAtMost16000() {
        Checks.sentence("The HELD size of an alive object k is the sum of the sizes of all objects that k guards; it is at most 16000");
        KeepTree x = Trees.longChain();
        for (int object = 0; object < OBJECTS; object++) {
            Checks.due("held(" + object + ")", x.held(object), 1000 * (OBJECTS - object));
        }
        Trees.giveAllTheSize(x, Integer.MAX_VALUE);
        Checks.due("held(0) of sizes that are too large", x.held(0), 16000);
        Trees.giveAllTheSize(x, Integer.MIN_VALUE);
        Checks.due("held(0) of sizes that are too small", x.held(0), 0);
    }
}
