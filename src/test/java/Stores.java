/** Stores to try calls on, each the same whenever it is made. */
final class Stores {
    private static final int REGISTERS = 32;

    private Stores() {
    }

    /**
     * Something of each kind: register 0 an object of 3 slots, 1 one of 10 bytes with that as its class,
     * 2 the number 42, 3 an object of no slots, 4 one of no bytes; the others nil.
     */
    static TabledStore mixed() {
        TabledStore x = new TabledStore(300, 20);
        x.make(0, 31, 3, true);
        x.make(1, 0, 10, false);
        x.bytePut(1, 1, 0x1122334455667788L);
        x.number(2, 42);
        x.make(3, 2, 0, true);
        x.make(4, 3, 0, false);
        x.put(0, 1, 3);
        return x;
    }

    /** As many words left as asked for (59 at most), beside an object of slots in register 0 and the number 5 in 1. */
    static TabledStore withWordsLeft(int left) {
        TabledStore x = new TabledStore(64, 16);
        x.make(0, 31, 60 - left, true);
        x.number(1, 5);
        x.put(0, 59 - left, 1);
        return x;
    }

    static TabledStore withoutWords() {
        return withWordsLeft(0);
    }

    /** As many entries left as asked for, and words enough; objects of one slot are in registers 0, 1 and so on. */
    static TabledStore withEntriesLeft(int left) {
        TabledStore x = new TabledStore(4096, 16);
        x.number(20, 9);
        for (int r = 0; r < 16 - left; r++) {
            x.make(r, 20, 1, true);
        }
        return x;
    }

    static TabledStore withoutEntries() {
        return withEntriesLeft(0);
    }

    /** Each register r an object of its own, of 2 slots, with the number 100 + r as its class and in slot 0. */
    static TabledStore slotsEverywhere() {
        TabledStore x = new TabledStore(400, 40);
        for (int r = 0; r < REGISTERS; r++) {
            x.number(r, 100 + r);
            x.chain(r, r, 2, 1);
        }
        return x;
    }

    /** Each register r an object of its own, of 9 bytes, the last of them 100 + r. */
    static TabledStore bytesEverywhere() {
        TabledStore x = new TabledStore(400, 40);
        for (int r = 0; r < REGISTERS; r++) {
            x.make(r, r, 9, false);
            x.bytePut(r, 8, (100L + r) << 56);
        }
        return x;
    }

    static TabledStore largest() {
        return new TabledStore(65536, 8192);
    }
}
