import java.util.function.Supplier;

/** Objects of the class that several tests use, and a look at the whole state of one. */
final class Trees {
    static final int OBJECTS = 16;

    private Trees() {
    }

    /** The first object is the root, and each refers to the next. As many calls as there are objects. */
    static KeepTree chain(int... objects) {
        KeepTree x = new KeepTree();
        x.setRoot(objects[0], true);
        for (int i = 1; i < objects.length; i++) {
            x.flip(objects[i - 1], objects[i]);
        }
        return x;
    }

    /** All sixteen in a chain from 0 up to 15, each of the greatest size: 32 calls. */
    static KeepTree longChain() {
        KeepTree x = chain(0, 1, 2, 3, 4, 5, 6, 7, 8, 9, 10, 11, 12, 13, 14, 15);
        giveAllTheSize(x, 1000);
        return x;
    }

    /** Every reference, every root, every size the greatest: 288 calls. */
    static KeepTree full() {
        KeepTree x = new KeepTree();
        giveAllTheSize(x, 1000);
        for (int from = 0; from < OBJECTS; from++) {
            x.setRoot(from, true);
            for (int to = 0; to < OBJECTS; to++) {
                x.flip(from, to);
            }
        }
        return x;
    }

    /** Some roots, references and sizes; in each object's row some references are there and some are not. */
    static KeepTree mixed() {
        KeepTree x = new KeepTree();
        for (int object = 0; object < OBJECTS; object++) {
            x.setSize(object, 60 * object + 1);
            x.setRoot(object, object % 3 == 0);
            x.flip(object, (5 * object + 3) % OBJECTS);
            x.flip(object, (7 * object + 8) % OBJECTS);
        }
        return x;
    }

    static void giveAllTheSize(KeepTree x, int size) {
        for (int object = 0; object < OBJECTS; object++) {
            x.setSize(object, size);
        }
    }

    /**
     * Every reference, root and size, as the changing calls tell them. The reading spends what it reads, and 512 calls are too few
     * to make a full one and to read it, so each half of the references is read from one of its own.
     */
    static int[] stateOf(Supplier<KeepTree> maker) {
        int[] state = new int[OBJECTS * OBJECTS + 2 * OBJECTS];
        int read = 0;
        KeepTree x = null;
        for (int from = 0; from < OBJECTS; from++) {
            x = from % 8 == 0 ? maker.get() : x;
            for (int to = 0; to < OBJECTS; to++) {
                state[read++] = 1 - x.flip(from, to);
            }
        }
        for (int object = 0; object < OBJECTS; object++) {
            state[read++] = x.setRoot(object, true);
            state[read++] = x.setSize(object, 1);
        }
        return state;
    }
}
