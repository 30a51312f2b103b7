/**
 * All that some 300 calls tell of a store, as a text to be compared with that of a store that should be the same.
 * Looking inside the objects takes a register, and in the end all are cleared: the store is of no use then.
 */
final class Picture {
    private static final int REGISTERS = 32;
    private static final int SCRATCH = 31;
    /** Some slots are enough to see a change; all slots of many objects would go over a store's 512 calls. */
    private static final int SLOTS_SEEN = 3;
    private static final int MOST_INSIDE = 100;

    private final TabledStore store;
    private final StringBuilder text = new StringBuilder();
    private int inside = 0;

    private Picture(TabledStore store) {
        this.store = store;
    }

    static String of(TabledStore store) {
        Picture picture = new Picture(store);
        picture.registersAndRoom();
        for (int r = 0; r < SCRATCH; r++) {
            if (store.kind(r) >= 2) {
                picture.insideOf(r);
            }
        }
        picture.nextIdentity();
        return picture.text.toString();
    }

    private void registersAndRoom() {
        for (int r = 0; r < REGISTERS; r++) {
            text.append(store.kind(r)).append(':').append(store.value(r)).append(':').append(store.size(r)).append(':');
            text.append(store.sum(r)).append(':').append(store.owners(r)).append(' ');
        }
        text.append(store.words()).append(' ').append(store.entries());
    }

    private void insideOf(int r) {
        if (inside > MOST_INSIDE) {
            return;
        }
        store.classOf(SCRATCH, r);
        text.append(" class ");
        scratch();
        int slots = store.kind(r) == 2 ? store.size(r) : 0;
        for (int i = 0; i < slots && i < SLOTS_SEEN; i++) {
            store.get(SCRATCH, r, i);
            text.append(" slot ");
            scratch();
        }
        if (slots > SLOTS_SEEN) {
            store.get(SCRATCH, r, slots - 1);
            text.append(" last slot ");
            scratch();
        }
    }

    private void scratch() {
        text.append(store.kind(SCRATCH)).append(':').append(store.value(SCRATCH));
        inside += 3;
    }

    /** Cleared first, so that there is room for the one that tells how many were made before. */
    private void nextIdentity() {
        for (int r = 0; r < REGISTERS; r++) {
            store.clear(r);
        }
        text.append(" next ").append(store.make(0, 1, 0, true));
    }
}
