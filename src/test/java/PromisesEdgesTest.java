/** Each sentence of the promises 1 to 12 that names a boundary case, in a test of its own. */
public final class PromisesEdgesTest {
    private static final int OBJECTS = Trees.OBJECTS;
    private static final int[] WRONG = {-1, 16, Integer.MIN_VALUE, Integer.MAX_VALUE};

    private PromisesEdgesTest() {
    }

    public static void main(String[] args) {
        promise1NoReferences();
        promise1NoRoots();
        promise1AllSizes0();
        promise2Below0();
        promise2Above1000();
        promise2TheSizeBefore();
        promise2Refused();
        promise3MakesAndTakesAway();
        promise3OneReferenceAlone();
        promise3Refused();
        promise4MakesARoot();
        promise4NoRootAnyMore();
        promise4Refused();
        promise5AliveOrNot();
        promise5Refused();
        promise6HasNone();
        promise6NotAlive();
        promise6KeepersWithEdgeNumbers();
        promise6Refused();
        promise7NotAlive();
        promise7Refused();
        promise8GuardsOrNot();
        promise8Refused();
        promise9NotAlive();
        promise9From1To16();
        promise9Refused();
        promise10LastCommonGuard();
        promise10NoneGuardsBoth();
        promise10OneNotAlive();
        promise10Refused();
        promise11NoKeeper();
        promise11GreatestHeldSize();
        promise11LeastNumber();
        promise11NoneAlive();
        promise12NoneAlive();
        promise12AllAlive();
        promise12AliveAlone();
        Checks.end();
    }

    private static void promise1NoReferences() {
        Checks.sentence("Promise 1: No references");
        KeepTree x = new KeepTree();
        for (int from = 0; from < OBJECTS; from++) {
            for (int to = 0; to < OBJECTS; to++) {
                Checks.due("flip(" + from + ", " + to + ")", x.flip(from, to), 1);
            }
        }
    }

    private static void promise1NoRoots() {
        Checks.sentence("Promise 1: no roots");
        KeepTree asked = new KeepTree();
        KeepTree changed = new KeepTree();
        for (int object = 0; object < OBJECTS; object++) {
            Checks.due("alive(" + object + ")", asked.alive(object), 0);
            Checks.due("keeper(" + object + ")", asked.keeper(object), -1);
            Checks.due("held(" + object + ")", asked.held(object), 0);
            Checks.due("guards(" + object + ", itself)", asked.guards(object, object), 0);
            Checks.due("depth(" + object + ")", asked.depth(object), 0);
            Checks.due("common(" + object + ", itself)", asked.common(object, object), -1);
            Checks.due("setRoot(" + object + ", true)", changed.setRoot(object, true), 0);
        }
        Checks.due("heaviest()", asked.heaviest(), -1);
        Checks.due("total()", asked.total(), 0);
    }

    private static void promise1AllSizes0() {
        Checks.sentence("Promise 1: all sizes 0");
        KeepTree x = new KeepTree();
        for (int object = 0; object < OBJECTS; object++) {
            Checks.due("setSize(" + object + ", 1000)", x.setSize(object, 1000), 0);
        }
        KeepTree next = new KeepTree();
        for (int object = 0; object < OBJECTS; object++) {
            Checks.due("setSize(" + object + ", 1000) of the next", next.setSize(object, 1000), 0);
        }
    }

    /** The size that an object has after it was given one, as each of the calls that show it answers. */
    private static void sizeBecomes(int given, int due) {
        for (int object = 0; object < OBJECTS; object++) {
            KeepTree x = new KeepTree();
            x.setRoot(object, true);
            x.setSize(object, 500);
            x.setSize(object, given);
            Checks.due("held(" + object + ") after the size " + given, x.held(object), due);
            Checks.due("total() after the size " + given, x.total(), due);
            Checks.due("setSize(" + object + ", 1) after the size " + given, x.setSize(object, 1), due);
        }
    }

    private static void promise2Below0() {
        Checks.sentence("Promise 2: a size below 0 becomes 0");
        for (int given : new int[] {-1, -2, -1000, -1001, -65536 + 7, Integer.MIN_VALUE + 7, Integer.MIN_VALUE}) {
            sizeBecomes(given, 0);
        }
        sizeBecomes(0, 0);
        sizeBecomes(1, 1);
    }

    private static void promise2Above1000() {
        Checks.sentence("Promise 2: above 1000 becomes 1000");
        for (int given : new int[] {1001, 1002, 1024, 2000, 32768, 65536, 65536 + 7, Integer.MAX_VALUE}) {
            sizeBecomes(given, 1000);
        }
        sizeBecomes(1000, 1000);
        sizeBecomes(999, 999);
    }

    private static void promise2TheSizeBefore() {
        Checks.sentence("Promise 2: Answers the size it had before");
        KeepTree x = new KeepTree();
        Checks.due("setSize(15, 4), the first time", x.setSize(15, 4), 0);
        Checks.due("setSize(15, 4), the same again", x.setSize(15, 4), 4);
        Checks.due("setSize(15, -9)", x.setSize(15, -9), 4);
        Checks.due("setSize(15, 5000), which was too small before", x.setSize(15, 5000), 0);
        Checks.due("setSize(15, 6), which was too large before", x.setSize(15, 6), 1000);
        Checks.due("setSize(14, 8), beside it", x.setSize(14, 8), 0);
        Checks.due("setSize(16, 9), refused", x.setSize(16, 9), -2);
        Checks.due("setSize(15, 0), after a refused one", x.setSize(15, 0), 6);
    }

    private static void promise2Refused() {
        Checks.sentence("Promise 2: or -2");
        for (int wrong : WRONG) {
            KeepTree x = new KeepTree();
            for (int size : new int[] {-1, 0, 1, 1000, 1001}) {
                Checks.due("setSize(" + wrong + ", " + size + ")", x.setSize(wrong, size), -2);
            }
        }
    }

    private static void promise3MakesAndTakesAway() {
        Checks.sentence("Promise 3: Answers 1 if there is one afterwards, 0 if not");
        for (int time = 1; time <= 511; time += 510) {
            KeepTree x = new KeepTree();
            for (int before = 1; before < time; before++) {
                x.flip(0, 15);
            }
            Checks.due("flip(0, 15) the time " + time, x.flip(0, 15), 1);
        }
        for (int from = 0; from < OBJECTS; from++) {
            KeepTree x = new KeepTree();
            for (int to = 0; to < OBJECTS; to++) {
                Checks.due("flip(" + from + ", " + to + ")", x.flip(from, to), 1);
            }
            for (int to = 0; to < OBJECTS; to++) {
                Checks.due("flip(" + from + ", " + to + ") again", x.flip(from, to), 0);
            }
            for (int to = 0; to < OBJECTS; to++) {
                Checks.due("flip(" + from + ", " + to + ") a third time", x.flip(from, to), 1);
            }
        }
    }

    private static void promise3OneReferenceAlone() {
        Checks.sentence("Promise 3: Makes a reference from one object to another, if there is none yet, and takes it away if there is one");
        for (int to = 0; to < OBJECTS; to++) {
            int from = (to + 1) % OBJECTS;
            KeepTree x = Trees.chain(from);
            x.flip(from, to);
            for (int object = 0; object < OBJECTS; object++) {
                int due = object == from || object == to ? 1 : 0;
                Checks.due("alive(" + object + ") with " + from + " to " + to, x.alive(object), due);
            }
            x.flip(from, to);
            Checks.due("alive(" + to + ") with it taken away", x.alive(to), 0);
        }
    }

    private static void promise3Refused() {
        Checks.sentence("Promise 3: or -2");
        for (int wrong : WRONG) {
            KeepTree x = new KeepTree();
            Checks.due("flip(" + wrong + ", 15)", x.flip(wrong, 15), -2);
            Checks.due("flip(15, " + wrong + ")", x.flip(15, wrong), -2);
            Checks.due("flip(" + wrong + ", " + wrong + ")", x.flip(wrong, wrong), -2);
        }
    }

    private static void promise4MakesARoot() {
        Checks.sentence("Promise 4: Makes the object a root");
        for (int object = 0; object < OBJECTS; object++) {
            KeepTree x = new KeepTree();
            Checks.due("setRoot(" + object + ", true)", x.setRoot(object, true), 0);
            Checks.due("alive(" + object + ")", x.alive(object), 1);
            Checks.due("setRoot(" + object + ", true) again", x.setRoot(object, true), 1);
            Checks.due("alive(" + object + ") after it", x.alive(object), 1);
        }
    }

    private static void promise4NoRootAnyMore() {
        Checks.sentence("Promise 4: or no root any more. Answers 1 if it was a root before, 0 if not");
        for (int object = 0; object < OBJECTS; object++) {
            int other = (object + 1) % OBJECTS;
            KeepTree x = Trees.chain(other, object);
            Checks.due("setRoot(" + object + ", false), alive but no root", x.setRoot(object, false), 0);
            Checks.due("alive(" + object + ")", x.alive(object), 1);
            x.setRoot(object, true);
            Checks.due("setRoot(" + object + ", false) of a root", x.setRoot(object, false), 1);
            Checks.due("setRoot(" + object + ", false) again", x.setRoot(object, false), 0);
            Checks.due("alive(" + object + "), no root but referred to", x.alive(object), 1);
            Checks.due("setRoot(" + other + ", false), the other root", x.setRoot(other, false), 1);
            Checks.due("alive(" + object + "), no root is left", x.alive(object), 0);
        }
    }

    private static void promise4Refused() {
        Checks.sentence("Promise 4: or -2");
        for (int wrong : WRONG) {
            KeepTree x = new KeepTree();
            Checks.due("setRoot(" + wrong + ", false)", x.setRoot(wrong, false), -2);
            Checks.due("setRoot(" + wrong + ", true)", x.setRoot(wrong, true), -2);
            Checks.due("setRoot(" + wrong + ", true) again", x.setRoot(wrong, true), -2);
        }
    }

    private static void promise5AliveOrNot() {
        Checks.sentence("Promise 5: 1 if the object is alive, else 0");
        KeepTree x = Trees.chain(15, 0);
        Checks.due("alive(15), a root", x.alive(15), 1);
        Checks.due("alive(0), referred to by it", x.alive(0), 1);
        Checks.due("alive(1), neither", x.alive(1), 0);
        x.flip(1, 15);
        Checks.due("alive(1), which refers to an alive one", x.alive(1), 0);
        x.flip(0, 15);
        x.setRoot(15, false);
        Checks.due("alive(15), in a ring whose root is gone", x.alive(15), 0);
        Checks.due("alive(0), in a ring whose root is gone", x.alive(0), 0);
    }

    private static void promise5Refused() {
        Checks.sentence("Promise 5: or -2");
        for (int wrong : WRONG) {
            Checks.due("alive(" + wrong + "), none alive", new KeepTree().alive(wrong), -2);
            Checks.due("alive(" + wrong + "), all alive", Trees.full().alive(wrong), -2);
        }
    }

    private static void promise6HasNone() {
        Checks.sentence("Promise 6: -1 if it has none");
        KeepTree full = Trees.full();
        KeepTree twoRoots = Trees.chain(3, 0);
        twoRoots.setRoot(4, true);
        twoRoots.flip(4, 0);
        for (int object = 0; object < OBJECTS; object++) {
            Checks.due("keeper(" + object + "), all referring to all", full.keeper(object), -1);
            Checks.due("keeper(" + object + "), a root alone", Trees.chain(object).keeper(object), -1);
        }
        Checks.due("keeper(0), no root, behind two", twoRoots.keeper(0), -1);
    }

    private static void promise6NotAlive() {
        Checks.sentence("Promise 6: -1 if it .. is not alive");
        KeepTree x = Trees.longChain();
        x.setRoot(0, false);
        for (int object = 0; object < OBJECTS; object++) {
            Checks.due("keeper(" + object + "), without a root", x.keeper(object), -1);
        }
        KeepTree beside = Trees.chain(0, 1);
        beside.flip(5, 6);
        Checks.due("keeper(6), not alive beside alive ones", beside.keeper(6), -1);
    }

    private static void promise6KeepersWithEdgeNumbers() {
        Checks.sentence("Promise 6: The keeper of the object");
        for (int k = 0; k < OBJECTS; k++) {
            for (int o = 0; o < OBJECTS; o++) {
                if (k != o) {
                    Checks.due("keeper(" + o + ") with " + k + " alone before it", Trees.chain(k, o).keeper(o), k);
                }
            }
        }
    }

    private static void promise6Refused() {
        Checks.sentence("Promise 6: -2");
        for (int wrong : WRONG) {
            Checks.due("keeper(" + wrong + "), none alive", new KeepTree().keeper(wrong), -2);
            Checks.due("keeper(" + wrong + "), all alive", Trees.longChain().keeper(wrong), -2);
        }
    }

    private static void promise7NotAlive() {
        Checks.sentence("Promise 7: 0 if it is not alive");
        KeepTree x = Trees.longChain();
        x.setRoot(0, false);
        x.flip(15, 15);
        for (int object = 0; object < OBJECTS; object++) {
            Checks.due("held(" + object + "), of size 1000 without a root", x.held(object), 0);
        }
        x.setRoot(15, true);
        Checks.due("held(14), which refers to an alive one", x.held(14), 0);
        Checks.due("held(15), alive", x.held(15), 1000);
        x.setSize(15, 0);
        Checks.due("held(15), alive and of size 0", x.held(15), 0);
    }

    private static void promise7Refused() {
        Checks.sentence("Promise 7: -2");
        for (int wrong : WRONG) {
            Checks.due("held(" + wrong + "), none alive", new KeepTree().held(wrong), -2);
            Checks.due("held(" + wrong + "), all alive", Trees.longChain().held(wrong), -2);
        }
    }

    private static void promise8GuardsOrNot() {
        Checks.sentence("Promise 8: 1 if k guards o, else 0");
        KeepTree chain = Trees.longChain();
        for (int k = 0; k < OBJECTS; k++) {
            for (int o = 0; o < OBJECTS; o++) {
                Checks.due("guards(" + k + ", " + o + ") in a chain", chain.guards(k, o), k <= o ? 1 : 0);
            }
        }
        for (int o = 0; o < OBJECTS; o++) {
            KeepTree dead = Trees.longChain();
            dead.setRoot(0, false);
            for (int k = 0; k < OBJECTS; k++) {
                Checks.due("guards(" + k + ", " + o + "), none alive", dead.guards(k, o), 0);
            }
        }
    }

    private static void promise8Refused() {
        Checks.sentence("Promise 8: or -2");
        for (int wrong : WRONG) {
            for (KeepTree x : new KeepTree[] {new KeepTree(), Trees.longChain()}) {
                Checks.due("guards(" + wrong + ", 0)", x.guards(wrong, 0), -2);
                Checks.due("guards(15, " + wrong + ")", x.guards(15, wrong), -2);
                Checks.due("guards(" + wrong + ", " + wrong + ")", x.guards(wrong, wrong), -2);
            }
        }
    }

    private static void promise9NotAlive() {
        Checks.sentence("Promise 9: (0 if it is not alive)");
        KeepTree x = Trees.longChain();
        x.flip(0, 1);
        x.flip(15, 1);
        for (int object = 1; object < OBJECTS; object++) {
            Checks.due("depth(" + object + "), in a ring beside a root", x.depth(object), 0);
        }
    }

    private static void promise9From1To16() {
        Checks.sentence("Promise 9: How many objects guard the object");
        KeepTree x = Trees.longChain();
        for (int object = 0; object < OBJECTS; object++) {
            Checks.due("depth(" + object + ") in a chain", x.depth(object), object + 1);
        }
        for (int from = 14; from >= 0; from--) {
            if (from < 14) {
                x.flip(from, 15);
            }
            Checks.due("depth(15) with a way from " + from, x.depth(15), from + 2);
        }
        x.setRoot(15, true);
        Checks.due("depth(15) as a root", x.depth(15), 1);
    }

    private static void promise9Refused() {
        Checks.sentence("Promise 9: or -2");
        for (int wrong : WRONG) {
            Checks.due("depth(" + wrong + "), none alive", new KeepTree().depth(wrong), -2);
            Checks.due("depth(" + wrong + "), all alive", Trees.longChain().depth(wrong), -2);
        }
    }

    private static void promise10LastCommonGuard() {
        Checks.sentence("Promise 10: of the objects that guard both, the one that is guarded by all others of them");
        int[] order = {9, 2, 15, 0, 7, 14, 1, 8, 3, 12, 5, 10, 4, 13, 6, 11};
        KeepTree x = Trees.chain(order);
        for (int i = 0; i < OBJECTS; i++) {
            for (int j = 0; j < OBJECTS; j++) {
                String call = "common(" + order[i] + ", " + order[j] + ") in a chain";
                Checks.due(call, x.common(order[i], order[j]), order[Math.min(i, j)]);
            }
        }
        KeepTree fork = Trees.chain(8, 13, 2, 6);
        fork.flip(13, 1);
        fork.flip(1, 0);
        Checks.due("common(6, 0), behind the fork", fork.common(6, 0), 13);
        Checks.due("common(0, 6), behind the fork", fork.common(0, 6), 13);
        fork.flip(8, 1);
        Checks.due("common(6, 0), with a way past the fork", fork.common(6, 0), 8);
        fork.flip(1, 6);
        Checks.due("common(6, 0), where 1 guards only the second", fork.common(6, 0), 8);
        Checks.due("common(6, 6), the object itself", fork.common(6, 6), 6);
    }

    private static void promise10NoneGuardsBoth() {
        Checks.sentence("Promise 10: -1 if no object guards both");
        KeepTree x = Trees.chain(0, 4);
        x.setRoot(1, true);
        x.flip(1, 5);
        Checks.due("common(0, 1), two roots", x.common(0, 1), -1);
        Checks.due("common(4, 5), one behind each", x.common(4, 5), -1);
        Checks.due("common(0, 5)", x.common(0, 5), -1);
        x.flip(0, 5);
        Checks.due("common(4, 5), of which both roots lead to one", x.common(4, 5), -1);
        Checks.due("common(0, 5), where 0 does not guard 5 any more", x.common(0, 5), -1);
        Checks.due("common(0, 4), where 0 guards both", x.common(0, 4), 0);
        KeepTree full = Trees.full();
        for (int object = 0; object < OBJECTS; object++) {
            int other = (object + 1) % OBJECTS;
            Checks.due("common(" + object + ", " + other + "), all referring to all", full.common(object, other), -1);
        }
    }

    private static void promise10OneNotAlive() {
        Checks.sentence("Promise 10: (or one is not alive)");
        KeepTree x = Trees.chain(0, 4);
        x.flip(5, 4);
        x.flip(5, 6);
        Checks.due("common(5, 4), the first", x.common(5, 4), -1);
        Checks.due("common(4, 5), the second", x.common(4, 5), -1);
        Checks.due("common(0, 5), the second, with a root", x.common(0, 5), -1);
        Checks.due("common(5, 6), both", x.common(5, 6), -1);
        Checks.due("common(5, 5), one with itself", x.common(5, 5), -1);
        x.setRoot(0, false);
        Checks.due("common(0, 4), both without a root", x.common(0, 4), -1);
    }

    private static void promise10Refused() {
        Checks.sentence("Promise 10: -2");
        for (int wrong : WRONG) {
            for (KeepTree x : new KeepTree[] {new KeepTree(), Trees.longChain()}) {
                Checks.due("common(" + wrong + ", 0)", x.common(wrong, 0), -2);
                Checks.due("common(15, " + wrong + ")", x.common(15, wrong), -2);
                Checks.due("common(" + wrong + ", " + wrong + ")", x.common(wrong, wrong), -2);
            }
        }
    }

    private static void promise11NoKeeper() {
        Checks.sentence("Promise 11: Of the objects that are alive and have no keeper");
        KeepTree x = Trees.chain(15, 0);
        Checks.due("heaviest(), where 0 holds as much but has a keeper", x.heaviest(), 15);
        x.setSize(3, 1000);
        Checks.due("heaviest(), where 3 has a size but is not alive", x.heaviest(), 15);
        x.setSize(0, 1000);
        x.setRoot(14, true);
        x.flip(14, 0);
        Checks.due("heaviest(), where 0 has no keeper and is no root", x.heaviest(), 0);
        x.flip(15, 0);
        Checks.due("heaviest(), where 0 has the keeper 14", x.heaviest(), 14);
    }

    private static void promise11GreatestHeldSize() {
        Checks.sentence("Promise 11: the one with the greatest held size");
        for (int heavy = 0; heavy < OBJECTS; heavy++) {
            KeepTree x = new KeepTree();
            for (int object = 0; object < OBJECTS; object++) {
                x.setRoot(object, true);
                x.setSize(object, object == heavy ? 1000 : 999);
            }
            Checks.due("heaviest(), " + heavy + " by one", x.heaviest(), heavy);
            x.setSize(heavy, 0);
            Checks.due("heaviest(), all but " + heavy, x.heaviest(), heavy == 0 ? 1 : 0);
        }
        KeepTree x = Trees.chain(7, 8, 9);
        x.setRoot(2, true);
        x.setSize(2, 1000);
        x.setSize(8, 500);
        x.setSize(9, 501);
        Checks.due("heaviest(), of size 0 but holding 1001", x.heaviest(), 7);
        KeepTree chain = Trees.longChain();
        chain.flip(15, 0);
        Checks.due("heaviest(), which holds 16000", chain.heaviest(), 0);
    }

    private static void promise11LeastNumber() {
        Checks.sentence("Promise 11: of several the least number");
        for (int size : new int[] {0, 1, 1000}) {
            KeepTree x = new KeepTree();
            Trees.giveAllTheSize(x, size);
            for (int object = 15; object >= 0; object--) {
                x.setRoot(object, true);
                Checks.due("heaviest() of " + object + " to 15, each of size " + size, x.heaviest(), object);
            }
            for (int object = 0; object < 15; object++) {
                x.setRoot(object, false);
                Checks.due("heaviest() without 0 to " + object + ", each of size " + size, x.heaviest(), object + 1);
            }
        }
        KeepTree x = Trees.chain(12, 1);
        x.setSize(1, 70);
        x.setRoot(5, true);
        x.setSize(5, 70);
        Checks.due("heaviest() of 12 and 5; 1, as heavy, has a keeper", x.heaviest(), 5);
    }

    private static void promise11NoneAlive() {
        Checks.sentence("Promise 11: -1 if no object is alive");
        Checks.due("heaviest() of a new one", new KeepTree().heaviest(), -1);
        KeepTree x = Trees.longChain();
        x.flip(15, 0);
        x.setRoot(0, false);
        Checks.due("heaviest() of a ring without a root", x.heaviest(), -1);
        x.setRoot(15, true);
        Trees.giveAllTheSize(x, 0);
        Checks.due("heaviest() of alive ones that hold 0", x.heaviest(), 15);
        x.setRoot(15, false);
        Checks.due("heaviest() with the root gone again", x.heaviest(), -1);
    }

    private static void promise12NoneAlive() {
        Checks.sentence("Promise 12: The sum of the sizes of all objects that are alive, where none is");
        Checks.due("total() of a new one", new KeepTree().total(), 0);
        KeepTree x = Trees.longChain();
        x.flip(15, 0);
        x.setRoot(0, false);
        Checks.due("total() of a ring without a root", x.total(), 0);
    }

    private static void promise12AllAlive() {
        Checks.sentence("Promise 12: The sum of the sizes of all objects that are alive, where all are");
        Checks.due("total() of a chain", Trees.longChain().total(), 16000);
        Checks.due("total(), all referring to all, each counted once", Trees.full().total(), 16000);
        KeepTree x = Trees.longChain();
        Trees.giveAllTheSize(x, -1);
        Checks.due("total(), all of size 0", x.total(), 0);
    }

    private static void promise12AliveAlone() {
        Checks.sentence("Promise 12: The sum of the sizes of all objects that are alive");
        for (int last = 0; last < 15; last++) {
            KeepTree x = Trees.longChain();
            x.flip(last, last + 1);
            Checks.due("total() of a chain broken after " + last, x.total(), 1000 * (last + 1));
        }
        KeepTree x = Trees.chain(15);
        x.setSize(0, 1);
        x.setSize(15, 2);
        Checks.due("total() of the root alone", x.total(), 2);
        x.flip(15, 0);
        Checks.due("total() of the two", x.total(), 3);
    }
}
