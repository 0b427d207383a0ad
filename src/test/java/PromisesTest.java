/** Each promise of the document by hand: ordinary inputs, the edges that the document names, and wrong inputs. */
public final class PromisesTest {
    private static final int OBJECTS = 16;
    private static final int[] WRONG = {-1, 16, 17, -16, 32, Integer.MIN_VALUE, Integer.MAX_VALUE};

    private PromisesTest() {
    }

    public static void main(String[] args) {
        newObject();
        objectsAreApart();
        setSize();
        flip();
        setRoot();
        alive();
        keeper();
        held();
        guards();
        depth();
        common();
        heaviest();
        heaviestOfObjectsThatAreNoRoots();
        total();
        refusedCallsChangeNothing();
        questionsChangeNothing();
        Checks.end();
    }

    /** 0 is the root; 0 to 1 and 2, both to 3, 3 to 4; 5 refers to 4 and is not alive. */
    private static KeepTree diamond() {
        KeepTree x = new KeepTree();
        x.setRoot(0, true);
        int[][] references = {{0, 1}, {0, 2}, {1, 3}, {2, 3}, {3, 4}, {5, 4}};
        for (int[] reference : references) {
            x.flip(reference[0], reference[1]);
        }
        for (int object = 0; object <= 5; object++) {
            x.setSize(object, 10 * (object + 1));
        }
        return x;
    }

    /** The whole state, as only changing calls show it. 288 calls: the object is spent after them. */
    private static void stateIs(String test, KeepTree x, String references, String roots, int sizesUpTo) {
        for (int from = 0; from < OBJECTS; from++) {
            for (int to = 0; to < OBJECTS; to++) {
                boolean there = references.contains(" " + from + ">" + to + " ");
                Checks.due(test + ": flip(" + from + ", " + to + ")", x.flip(from, to), there ? 0 : 1);
            }
        }
        for (int object = 0; object < OBJECTS; object++) {
            boolean root = roots.contains(" " + object + " ");
            Checks.due(test + ": setRoot(" + object + ", true)", x.setRoot(object, true), root ? 1 : 0);
            int size = object <= sizesUpTo ? 10 * (object + 1) : 0;
            Checks.due(test + ": setSize(" + object + ", 1)", x.setSize(object, 1), size);
        }
    }

    private static void diamondIsAsMade(String test, KeepTree x) {
        stateIs(test, x, " 0>1 0>2 1>3 2>3 3>4 5>4 ", " 0 ", 5);
    }

    private static void newObject() {
        stateIs("promise 1", new KeepTree(), "", "", -1);
        KeepTree x = new KeepTree();
        for (int object = 0; object < OBJECTS; object++) {
            Checks.due("promise 1: alive(" + object + ")", x.alive(object), 0);
            Checks.due("promise 1: keeper(" + object + ")", x.keeper(object), -1);
            Checks.due("promise 1: held(" + object + ")", x.held(object), 0);
            Checks.due("promise 1: depth(" + object + ")", x.depth(object), 0);
        }
        Checks.due("promise 1: heaviest()", x.heaviest(), -1);
        Checks.due("promise 1: total()", x.total(), 0);
    }

    private static void objectsAreApart() {
        KeepTree used = diamond();
        stateIs("promise 1, beside a used object", new KeepTree(), "", "", -1);
        diamondIsAsMade("promise 1, beside a new object", used);
    }

    private static void setSize() {
        KeepTree x = new KeepTree();
        int[] given = {7, 0, 1000, 999, 1001, 1, -1, 500, Integer.MAX_VALUE, 3, Integer.MIN_VALUE, 1000, 1000};
        int[] kept = {7, 0, 1000, 999, 1000, 1, 0, 500, 1000, 3, 0, 1000, 1000};
        for (int object = 0; object < OBJECTS; object += 15) {
            int before = 0;
            for (int i = 0; i < given.length; i++) {
                Checks.due("promise 2: setSize(" + object + ", " + given[i] + ")", x.setSize(object, given[i]), before);
                before = kept[i];
            }
        }
        Checks.due("promise 2: setSize(1, 5) beside others", x.setSize(1, 5), 0);
        for (int wrong : WRONG) {
            Checks.due("promise 2: setSize(" + wrong + ", 5)", x.setSize(wrong, 5), -2);
            Checks.due("promise 2: setSize(" + wrong + ", -5)", x.setSize(wrong, -5), -2);
        }
        Checks.due("promise 2: setSize(1, 0)", x.setSize(1, 0), 5);
    }

    private static void flip() {
        KeepTree x = new KeepTree();
        Checks.due("promise 3: flip(2, 9)", x.flip(2, 9), 1);
        Checks.due("promise 3: flip(9, 2), the other direction", x.flip(9, 2), 1);
        Checks.due("promise 3: flip(2, 9) again", x.flip(2, 9), 0);
        Checks.due("promise 3: flip(2, 9) a third time", x.flip(2, 9), 1);
        Checks.due("promise 3: flip(9, 2) again", x.flip(9, 2), 0);
        Checks.due("promise 3: flip(15, 15), to itself", x.flip(15, 15), 1);
        Checks.due("promise 3: flip(15, 15) again", x.flip(15, 15), 0);
        Checks.due("promise 3: flip(0, 15)", x.flip(0, 15), 1);
        Checks.due("promise 3: flip(15, 0)", x.flip(15, 0), 1);
        Checks.due("promise 3: flip(0, 15) again", x.flip(0, 15), 0);
        for (int wrong : WRONG) {
            Checks.due("promise 3: flip(" + wrong + ", 0)", x.flip(wrong, 0), -2);
            Checks.due("promise 3: flip(0, " + wrong + ")", x.flip(0, wrong), -2);
            Checks.due("promise 3: flip(" + wrong + ", " + wrong + ")", x.flip(wrong, wrong), -2);
        }
    }

    private static void setRoot() {
        KeepTree x = new KeepTree();
        for (int object = 0; object < OBJECTS; object += 5) {
            String call = "promise 4: setRoot(" + object + ", ";
            Checks.due(call + "false) of no root", x.setRoot(object, false), 0);
            Checks.due(call + "true)", x.setRoot(object, true), 0);
            Checks.due(call + "true) of a root", x.setRoot(object, true), 1);
            Checks.due(call + "false)", x.setRoot(object, false), 1);
            Checks.due(call + "false) of one that was a root", x.setRoot(object, false), 0);
        }
        x.setRoot(3, true);
        x.flip(3, 4);
        Checks.due("promise 4: setRoot(4, false) of one that is only alive", x.setRoot(4, false), 0);
        Checks.due("promise 4: alive(4) afterwards", x.alive(4), 1);
        for (int wrong : WRONG) {
            Checks.due("promise 4: setRoot(" + wrong + ", true)", x.setRoot(wrong, true), -2);
            Checks.due("promise 4: setRoot(" + wrong + ", false)", x.setRoot(wrong, false), -2);
        }
    }

    private static void alive() {
        KeepTree x = diamond();
        for (int object = 0; object < OBJECTS; object++) {
            Checks.due("promise 5: alive(" + object + ")", x.alive(object), object <= 4 ? 1 : 0);
        }
        x.flip(6, 6);
        Checks.due("promise 5: alive(6), which only refers to itself", x.alive(6), 0);
        x.flip(7, 8);
        x.flip(8, 7);
        Checks.due("promise 5: alive(7), in a ring without a root", x.alive(7), 0);
        x.setRoot(0, false);
        Checks.due("promise 5: alive(4) without a root", x.alive(4), 0);
        x.setRoot(5, true);
        Checks.due("promise 5: alive(4) from another root", x.alive(4), 1);
        Checks.due("promise 5: alive(3), to which no alive one refers", x.alive(3), 0);
        for (int wrong : WRONG) {
            Checks.due("promise 5: alive(" + wrong + ")", x.alive(wrong), -2);
        }
        aliveAlongAllObjects();
    }

    private static void aliveAlongAllObjects() {
        KeepTree up = new KeepTree();
        KeepTree down = new KeepTree();
        for (int object = 0; object < 15; object++) {
            up.flip(object, object + 1);
            down.flip(object + 1, object);
        }
        up.setRoot(0, true);
        down.setRoot(15, true);
        Checks.due("promise 5: alive(15) along all objects", up.alive(15), 1);
        Checks.due("promise 5: alive(0) along all objects", down.alive(0), 1);
        Checks.due("promise 9: depth(15) along all objects", up.depth(15), 16);
        Checks.due("promise 9: depth(0) along all objects", down.depth(0), 16);
        Checks.due("promise 6: keeper(15) along all objects", up.keeper(15), 14);
        Checks.due("promise 6: keeper(0) along all objects", down.keeper(0), 1);
        Checks.due("promise 10: common(15, 7) along all objects", up.common(15, 7), 7);
        Checks.due("promise 10: common(0, 7) along all objects", down.common(0, 7), 7);
    }

    private static void keeper() {
        KeepTree x = diamond();
        int[] due = {-1, 0, 0, 0, 3, -1, -1};
        for (int object = 0; object < due.length; object++) {
            Checks.due("promise 6: keeper(" + object + ")", x.keeper(object), due[object]);
        }
        x.flip(4, 4);
        Checks.due("promise 6: keeper(4), which refers to itself too", x.keeper(4), 3);
        x.flip(4, 0);
        Checks.due("promise 6: keeper(0), a root that is referred to", x.keeper(0), -1);
        x.setRoot(5, true);
        Checks.due("promise 6: keeper(4), alive from two roots", x.keeper(4), -1);
        Checks.due("promise 6: keeper(3), behind 0 from either root", x.keeper(3), 0);
        x.setRoot(5, false);
        x.flip(0, 2);
        Checks.due("promise 6: keeper(3) with one way left", x.keeper(3), 1);
        x.setRoot(3, true);
        Checks.due("promise 6: keeper(3) as a root", x.keeper(3), -1);
        Checks.due("promise 6: keeper(4) behind it", x.keeper(4), 3);
        for (int wrong : WRONG) {
            Checks.due("promise 6: keeper(" + wrong + ")", x.keeper(wrong), -2);
        }
    }

    private static void held() {
        KeepTree x = diamond();
        int[] due = {150, 20, 30, 90, 50, 0, 0};
        for (int object = 0; object < due.length; object++) {
            Checks.due("promise 7: held(" + object + ")", x.held(object), due[object]);
        }
        x.setSize(3, 0);
        Checks.due("promise 7: held(3) with a size of 0", x.held(3), 50);
        x.flip(4, 4);
        Checks.due("promise 7: held(4), which refers to itself too", x.held(4), 50);
        x.setRoot(4, true);
        Checks.due("promise 7: held(3) in front of a root", x.held(3), 0);
        Checks.due("promise 7: held(0) in front of a root", x.held(0), 60);
        for (int wrong : WRONG) {
            Checks.due("promise 7: held(" + wrong + ")", x.held(wrong), -2);
        }
        KeepTree full = new KeepTree();
        full.setRoot(9, true);
        for (int object = 0; object < OBJECTS; object++) {
            full.setSize(object, 5000);
            full.flip(9, object);
        }
        Checks.due("promise 7: held(9), the most there is", full.held(9), 16000);
        Checks.due("promise 7: held(0) of one of them", full.held(0), 1000);
        Checks.due("promise 12: total(), the most there is", full.total(), 16000);
    }

    private static void guards() {
        KeepTree x = diamond();
        String due = " 0>0 0>1 0>2 0>3 0>4 1>1 2>2 3>3 3>4 4>4 ";
        for (int k = 0; k < OBJECTS; k++) {
            for (int o = 0; o < OBJECTS; o++) {
                boolean there = due.contains(" " + k + ">" + o + " ");
                Checks.due("promise 8: guards(" + k + ", " + o + ")", x.guards(k, o), there ? 1 : 0);
            }
        }
        for (int wrong : WRONG) {
            Checks.due("promise 8: guards(" + wrong + ", 0)", x.guards(wrong, 0), -2);
            Checks.due("promise 8: guards(0, " + wrong + ")", x.guards(0, wrong), -2);
            Checks.due("promise 8: guards(" + wrong + ", " + wrong + ")", x.guards(wrong, wrong), -2);
        }
        x.setRoot(5, true);
        Checks.due("promise 8: guards(0, 4) with two roots", x.guards(0, 4), 0);
        Checks.due("promise 8: guards(5, 4) with two roots", x.guards(5, 4), 0);
        Checks.due("promise 8: guards(5, 5) as a root", x.guards(5, 5), 1);
        x.setRoot(5, false);
        x.flip(15, 15);
        Checks.due("promise 8: guards(15, 15), not alive but referring to itself", x.guards(15, 15), 0);
        x.setRoot(15, true);
        Checks.due("promise 8: guards(15, 15), a root that refers to itself", x.guards(15, 15), 1);
    }

    private static void depth() {
        KeepTree x = diamond();
        int[] due = {1, 2, 2, 2, 3, 0, 0};
        for (int object = 0; object < due.length; object++) {
            Checks.due("promise 9: depth(" + object + ")", x.depth(object), due[object]);
        }
        x.flip(0, 0);
        Checks.due("promise 9: depth(0), which refers to itself", x.depth(0), 1);
        x.flip(0, 1);
        Checks.due("promise 9: depth(4) with one way left", x.depth(4), 4);
        x.setRoot(4, true);
        Checks.due("promise 9: depth(4) as a root", x.depth(4), 1);
        for (int wrong : WRONG) {
            Checks.due("promise 9: depth(" + wrong + ")", x.depth(wrong), -2);
        }
    }

    private static void common() {
        KeepTree x = diamond();
        x.flip(3, 6);
        x.flip(6, 7);
        int[][] due = {{1, 2, 0}, {1, 3, 0}, {4, 7, 3}, {7, 6, 6}, {3, 7, 3}, {0, 7, 0}, {0, 0, 0}, {7, 7, 7}, {4, 1, 0}};
        for (int[] row : due) {
            Checks.due("promise 10: common(" + row[0] + ", " + row[1] + ")", x.common(row[0], row[1]), row[2]);
            Checks.due("promise 10: common(" + row[1] + ", " + row[0] + ")", x.common(row[1], row[0]), row[2]);
        }
        Checks.due("promise 10: common(5, 4), the first not alive", x.common(5, 4), -1);
        Checks.due("promise 10: common(4, 5), the second not alive", x.common(4, 5), -1);
        Checks.due("promise 10: common(5, 5), not alive", x.common(5, 5), -1);
        x.setRoot(2, true);
        Checks.due("promise 10: common(1, 2) of two roots' objects", x.common(1, 2), -1);
        Checks.due("promise 10: common(4, 7) behind both roots", x.common(4, 7), 3);
        Checks.due("promise 10: common(3, 3) behind both roots", x.common(3, 3), 3);
        Checks.due("promise 10: common(3, 0)", x.common(3, 0), -1);
        for (int wrong : WRONG) {
            Checks.due("promise 10: common(" + wrong + ", 0)", x.common(wrong, 0), -2);
            Checks.due("promise 10: common(0, " + wrong + ")", x.common(0, wrong), -2);
            Checks.due("promise 10: common(5, " + wrong + "), 5 not alive", x.common(5, wrong), -2);
            Checks.due("promise 10: common(" + wrong + ", " + wrong + ")", x.common(wrong, wrong), -2);
        }
    }

    private static void heaviest() {
        KeepTree x = new KeepTree();
        x.setSize(3, 900);
        x.flip(3, 3);
        Checks.due("promise 11: heaviest(), none alive", x.heaviest(), -1);
        x.setRoot(8, true);
        Checks.due("promise 11: heaviest(), one alive that holds 0", x.heaviest(), 8);
        x.setRoot(6, true);
        Checks.due("promise 11: heaviest(), two that hold 0", x.heaviest(), 6);
        x.setSize(8, 1);
        Checks.due("promise 11: heaviest(), the greater number holds more", x.heaviest(), 8);
        x.setSize(6, 1);
        Checks.due("promise 11: heaviest(), two that hold 1", x.heaviest(), 6);
        x.setSize(12, 1);
        x.flip(8, 12);
        Checks.due("promise 11: heaviest(), by what is held and not by the own size", x.heaviest(), 8);
        x.setSize(12, 1000);
        x.setSize(1, 1000);
        x.setRoot(1, true);
        x.setSize(8, 0);
        Checks.due("promise 11: heaviest(), 1 and 8 hold 1000", x.heaviest(), 1);
        x.setRoot(1, false);
        Checks.due("promise 11: heaviest(), 12 holds as much as 8 but has a keeper", x.heaviest(), 8);
        x.setSize(0, 1000);
        x.flip(12, 0);
        x.setSize(8, 0);
        Checks.due("promise 11: heaviest(), 8 and its 12 hold 2000", x.heaviest(), 8);
        x.setRoot(8, false);
        x.setRoot(6, false);
        Checks.due("promise 11: heaviest(), none alive any more", x.heaviest(), -1);
    }

    private static void heaviestOfObjectsThatAreNoRoots() {
        KeepTree x = new KeepTree();
        x.setRoot(0, true);
        x.setRoot(1, true);
        x.flip(0, 5);
        x.flip(1, 5);
        Checks.due("promise 11: heaviest(), all hold 0", x.heaviest(), 0);
        x.setSize(5, 10);
        Checks.due("promise 11: heaviest(), no root but without a keeper", x.heaviest(), 5);
        x.setRoot(1, false);
        Checks.due("promise 11: heaviest(), it has a keeper now", x.heaviest(), 0);
        // An object with a lower number that holds just as much, but has a keeper, must not be answered.
        KeepTree y = new KeepTree();
        y.setRoot(9, true);
        y.flip(9, 2);
        y.setSize(2, 50);
        Checks.due("promise 11: heaviest(), 2 has a keeper", y.heaviest(), 9);
    }

    private static void total() {
        KeepTree x = diamond();
        Checks.due("promise 12: total()", x.total(), 150);
        x.setRoot(5, true);
        Checks.due("promise 12: total() with another root", x.total(), 210);
        x.setRoot(0, false);
        Checks.due("promise 12: total() from that root alone", x.total(), 110);
        x.flip(5, 4);
        Checks.due("promise 12: total() without its reference", x.total(), 60);
        x.setSize(5, 2000);
        Checks.due("promise 12: total() with the greatest size", x.total(), 1000);
        x.setSize(5, -1);
        Checks.due("promise 12: total() with the least size", x.total(), 0);
        x.setSize(5, 9);
        x.setRoot(5, false);
        Checks.due("promise 12: total(), none alive", x.total(), 0);
    }

    private static void refusedCallsChangeNothing() {
        KeepTree x = diamond();
        for (int wrong : WRONG) {
            String call = "refused: " + wrong + " in ";
            Checks.due(call + "setSize", x.setSize(wrong, 77), -2);
            Checks.due(call + "flip as from", x.flip(wrong, 3), -2);
            Checks.due(call + "flip as to", x.flip(3, wrong), -2);
            Checks.due(call + "setRoot true", x.setRoot(wrong, true), -2);
            Checks.due(call + "setRoot false", x.setRoot(wrong, false), -2);
            Checks.due(call + "guards", x.guards(wrong, 1), -2);
            Checks.due(call + "common", x.common(1, wrong), -2);
        }
        diamondIsAsMade("after refused calls", x);
    }

    private static void questionsChangeNothing() {
        KeepTree x = diamond();
        for (int object = 0; object < OBJECTS; object++) {
            x.alive(object);
            x.keeper(object);
            x.held(object);
            x.depth(object);
            x.guards(0, object);
            x.common(object, 4);
        }
        x.heaviest();
        x.total();
        diamondIsAsMade("after questions", x);
    }
}
