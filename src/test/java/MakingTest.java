/** Promises 1 a new object, 5 make, 6 copy, 7 chain. */
public final class MakingTest {
    public static void main(String[] args) {
        newStore();
        make();
        makeAtTheEdgeOfRoom();
        makeRefused();
        copy();
        copyRefused();
        chain();
        chainOfOwnClass();
        chainRefused();
        Check.end();
    }

    private static void newStore() {
        room(64, 16, 64, 16);
        room(65536, 8192, 65536, 8192);
        room(65, 17, 65, 17);
        room(63, 15, 65536, 8192);
        room(65537, 8193, 65536, 8192);
        room(0, 100, 65536, 100);
        room(100, 0, 100, 8192);
        room(-1, -1, 65536, 8192);
        room(Integer.MIN_VALUE, Integer.MAX_VALUE, 65536, 8192);
        TabledStore x = new TabledStore(64, 16);
        for (int r = 0; r < 32; r++) {
            Check.due("a new store's register " + r, x.kind(r), 0);
        }
    }

    private static void room(int words, int entries, int dueWords, int dueEntries) {
        TabledStore x = new TabledStore(words, entries);
        Check.due("words of a store of " + words, x.words(), dueWords);
        Check.due("entries of a store of " + entries, x.entries(), dueEntries);
    }

    private static void make() {
        TabledStore x = new TabledStore(200, 16);
        x.number(7, 99);
        Check.due("make of slots", x.make(0, 7, 3, true), 1);
        Check.due("make of bytes", x.make(1, 0, 5, false), 2);
        Check.due("words after both", x.words(), 200 - 7 - 6);
        Check.due("size", x.size(0), 3);
        for (int i = 0; i < 3; i++) {
            x.get(5, 0, i);
            Check.due("a new slot", x.kind(5), 0);
        }
        for (int i = 0; i < 5; i++) {
            Check.due("a new byte", x.byteAt(1, i), 0);
        }
        x.classOf(5, 0);
        Check.due("class of the first", x.value(5), 99);
        x.classOf(5, 1);
        Check.due("class of the second", x.value(5), 1);
        Check.due("make with its own register's class", x.make(1, 1, 0, true), 3);
        x.classOf(6, 1);
        Check.due("its class", x.value(6), 2);
        Check.due("make of no bytes", x.make(8, 20, 0, false), 4);
        Check.due("kind of no bytes", x.kind(8), 3);
        TabledStore wide = new TabledStore(0, 0);
        Check.due("make of 4000 slots", wide.make(0, 1, 4000, true), 1);
        Check.due("make of 16000 bytes", wide.make(1, 1, 16000, false), 2);
        Check.due("words of both", wide.words(), 65536 - 8008);
    }

    /** Room that held other things before is used again, as if it were new. */
    private static void makeAtTheEdgeOfRoom() {
        TabledStore x = new TabledStore(64, 16);
        x.make(0, 31, 60, true);
        Check.due("words when full", x.words(), 0);
        Check.due("make over what counts till it is made",
                Check.thrown(x, y -> y.make(0, 31, 0, true)), "java.lang.UnsupportedOperationException");
        for (int i = 0; i < 60; i++) {
            x.put(0, i, 0);
        }
        x.clear(0);
        Check.due("make when it is gone", x.make(0, 31, 240, false), 2);
        for (int i = 0; i < 240; i++) {
            Check.due("a byte of room used again", x.byteAt(0, i), 0);
        }
        x.clear(0);
        Check.due("make of 57 words", x.make(0, 31, 53, true), 3);
        x.get(1, 0, 52);
        Check.due("a slot of room used again", x.kind(1), 0);
        x = new TabledStore(64, 16);
        x.make(0, 31, 53, true);
        Check.noRoom(x, "make of 28 bytes in 7 words", y -> y.make(1, 31, 28, false));
        x = new TabledStore(64, 16);
        x.make(0, 31, 53, true);
        Check.due("make of 9 bytes in 7 words", x.make(1, 31, 9, false), 2);
        x = new TabledStore(64, 16);
        x.make(0, 31, 53, true);
        Check.noRoom(x, "make of 13 bytes in 7 words", y -> y.make(1, 31, 13, false));
        x = new TabledStore(4096, 16);
        for (int r = 0; r < 16; r++) {
            Check.due("make of each entry", x.make(r, 31, 1, true), r + 1);
        }
        Check.noRoom(x, "make without an entry", y -> y.make(0, 31, 0, true));
        x.clear(7);
        Check.due("no number was used", x.make(7, 31, 1, true), 17);
    }

    private static void makeRefused() {
        Check.badRegister("make into", (y, r) -> y.make(r, 0, 1, true));
        Check.badRegister("make of class", (y, r) -> y.make(0, r, 1, true));
        for (int n : new int[] {-1, 4001, Integer.MIN_VALUE, Integer.MAX_VALUE}) {
            Check.badArgument("make of slots " + n, y -> y.make(0, 0, n, true));
        }
        for (int n : new int[] {-1, 16001, Integer.MIN_VALUE, Integer.MAX_VALUE}) {
            Check.badArgument("make of bytes " + n, y -> y.make(0, 0, n, false));
        }
        Check.noRoom(Check.filled(), "make of too many slots", y -> y.make(0, 0, 4000, true));
        Check.noRoom(Check.filled(), "make of too many bytes", y -> y.make(0, 0, 16000, false));
    }

    private static void copy() {
        TabledStore x = Check.filled();
        x.put(0, 0, 0);
        x.put(0, 2, 2);
        x.setClass(0, 4);
        Check.due("copy of slots", x.copy(8, 0), 5);
        Check.due("its kind", x.kind(8), 2);
        Check.due("its size", x.size(8), 3);
        int[] due = {1, 3, 42};
        for (int i = 0; i < 3; i++) {
            x.get(9, 8, i);
            Check.due("its slot " + i, x.value(9), due[i]);
        }
        x.classOf(9, 8);
        Check.due("its class", x.value(9), 4);
        x.put(8, 2, 20);
        x.get(9, 0, 2);
        Check.due("the first one's slot stays", x.value(9), 42);
        int sum = x.sum(1);
        Check.due("copy of bytes", x.copy(9, 1), 6);
        Check.due("its kind", x.kind(9), 3);
        Check.due("its sum", x.sum(9), sum);
        x.bytePut(9, 0, -1L);
        Check.due("the first one's sum stays", x.sum(1), sum);
        Check.due("copy onto itself", x.copy(1, 1), 7);
        Check.due("its sum", x.sum(1), sum);
        Check.due("copy of no slots", x.copy(10, 3), 8);
        Check.due("copy of no bytes", x.copy(11, 4), 9);
        Check.due("its kind", x.kind(11), 3);
    }

    private static void copyRefused() {
        Check.badRegister("copy into", (y, r) -> y.copy(r, 0));
        Check.badRegister("copy from", (y, r) -> y.copy(0, r));
        Check.badArgument("copy of a number", y -> y.copy(0, 2));
        Check.badArgument("copy of nil", y -> y.copy(0, 20));
        TabledStore x = new TabledStore(64, 16);
        x.make(0, 31, 29, true);
        Check.noRoom(x, "copy of 33 words", y -> y.copy(0, 0));
        x = new TabledStore(64, 16);
        x.make(0, 31, 28, true);
        x.make(1, 31, 27, true);
        x.number(2, 6);
        x.put(0, 27, 2);
        x.clear(1);
        x.make(1, 31, 2, true);
        x.clear(1);
        Check.due("copy that moves what it copies", x.copy(1, 0), 4);
        x.get(3, 1, 27);
        Check.due("its last slot", x.value(3), 6);
        Check.due("words then", x.words(), 0);
    }

    private static void chain() {
        TabledStore x = new TabledStore(100, 16);
        x.number(0, 8);
        x.number(1, 5);
        Check.due("chain", x.chain(0, 1, 2, 3), 3);
        Check.due("the last made", x.value(0), 3);
        Check.due("words then", x.words(), 82);
        x.get(2, 0, 1);
        Check.due("slot 1", x.kind(2), 0);
        x.classOf(2, 0);
        Check.due("class", x.value(2), 5);
        x.get(2, 0, 0);
        Check.due("the one before", x.value(2), 2);
        Check.due("walk to the first and on", x.walk(0, 0, 10), 3);
        Check.due("what the register had", x.value(0), 8);
        x.clear(2);
        Check.due("chain till the words end", x.chain(0, 20, 6, 4000), 10);
        Check.due("words then", x.words(), 0);
        Check.due("chain of none", x.chain(1, 20, 1, 1), 0);
        Check.due("the register stays", x.value(1), 5);
        x.clear(0);
        Check.due("chain till the entries end", x.chain(0, 20, 1, 4000), 16);
        Check.due("the last made", x.value(0), 29);
        Check.due("chain from what is not cleared", x.chain(0, 20, 1, 1), 0);
        x = new TabledStore(0, 0);
        Check.due("chain of the most", x.chain(0, 0, 1, 4000), 4000);
        Check.due("chain of the widest", x.chain(1, 20, 100, 1), 1);
        Check.due("its size", x.size(1), 100);
    }

    private static void chainOfOwnClass() {
        TabledStore x = new TabledStore(100, 16);
        x.number(0, 8);
        Check.due("chain of its own class", x.chain(0, 0, 1, 3), 3);
        x.classOf(1, 0);
        Check.due("the third's class", x.value(1), 2);
        x.classOf(1, 1);
        Check.due("the second's class", x.value(1), 1);
        x.classOf(1, 1);
        Check.due("the first's class", x.value(1), 8);
    }

    private static void chainRefused() {
        Check.badRegister("chain into", (y, r) -> y.chain(r, 0, 1, 1));
        Check.badRegister("chain of class", (y, r) -> y.chain(0, r, 1, 1));
        for (int n : new int[] {0, -1, 101, Integer.MIN_VALUE, Integer.MAX_VALUE}) {
            Check.badArgument("chain of slots " + n, y -> y.chain(0, 0, n, 1));
        }
        for (int many : new int[] {0, -1, 4001, Integer.MIN_VALUE, Integer.MAX_VALUE}) {
            Check.badArgument("chain of many " + many, y -> y.chain(0, 0, 1, many));
        }
    }
}
