/** Promises 8 get, 9 put. */
public final class SlotsTest {
    private static final int[] OUTSIDE_OF_THREE = {-1, 3, 4, Integer.MIN_VALUE, Integer.MAX_VALUE};

    public static void main(String[] args) {
        get();
        getLetsGo();
        getFirstAndLast();
        getRegisters();
        getNoSuchRegister();
        getNoSlots();
        getNoSuchSlot();
        getFirstNamed();
        put();
        putLetsGo();
        putFirstAndLast();
        putRegisters();
        putNoSuchRegister();
        putNoSlots();
        putNoSuchSlot();
        putFirstNamed();
        Check.end();
    }

    private static void get() {
        Check.says("Promise 8: Register r becomes what slot i of register from's object has");
        TabledStore x = Stores.mixed();
        x.put(0, 0, 2);
        x.put(0, 2, 0);
        x.get(9, 0, 0);
        Check.due("a number", x.value(9), 42);
        x.get(9, 0, 1);
        Check.due("an object", x.value(9), 3);
        x.get(9, 0, 2);
        Check.due("the object itself", x.value(9), 1);
        x.put(0, 2, 31);
        x.get(9, 0, 2);
        Check.due("nil", x.kind(9), 0);
        x.get(0, 0, 1);
        Check.due("over the register it is got from", x.value(0), 3);
    }

    private static void getLetsGo() {
        Check.says("Terms: (What is not reachable any more takes none.) (get)");
        TabledStore x = new TabledStore(64, 16);
        x.make(0, 31, 1, true);
        x.make(1, 31, 10, true);
        x.get(1, 0, 0);
        Check.due("words after a get over an object", x.words(), 59);
        x.get(0, 0, 0);
        Check.due("words after a get over the one it is got from", x.words(), 64);
    }

    private static void getFirstAndLast() {
        Check.says("Promise 8: slot i of register from's object");
        for (int n : new int[] {1, 2, 4000}) {
            TabledStore x = Stores.largest();
            x.make(0, 31, n, true);
            x.number(1, 11);
            x.number(2, 22);
            x.put(0, 0, 1);
            x.put(0, n - 1, 2);
            x.get(3, 0, 0);
            Check.due("the first of " + n, x.value(3), n == 1 ? 22 : 11);
            x.get(3, 0, n - 1);
            Check.due("the last of " + n, x.value(3), 22);
        }
    }

    private static void getRegisters() {
        Check.says("Promise 8: Register r becomes .. register from's object");
        TabledStore x = Stores.slotsEverywhere();
        x.get(0, 31, 0);
        Check.due("from the last to the first", x.value(0), 131);
        x = Stores.slotsEverywhere();
        x.get(31, 0, 0);
        Check.due("from the first to the last", x.value(31), 100);
    }

    private static void getNoSuchRegister() {
        Check.says("Promise 8: there is no such register");
        Check.badRegister("get into", (x, r) -> x.get(r, 0, 0));
        Check.badRegister("get from", (x, r) -> x.get(0, r, 0));
        Check.badArgument("get with neither", x -> x.get(-1, 32, 0));
    }

    private static void getNoSlots() {
        Check.says("Promise 8: or from has no object of slots");
        Check.badArgument("get of bytes", x -> x.get(9, 1, 0));
        Check.badArgument("get of a number", x -> x.get(9, 2, 0));
        Check.badArgument("get of nil", x -> x.get(9, 20, 0));
    }

    private static void getNoSuchSlot() {
        Check.says("Promise 8: IndexOutOfBoundsException: it has no such slot");
        for (int i : OUTSIDE_OF_THREE) {
            Check.badIndex(Stores::mixed, "get of three, slot " + i, x -> x.get(9, 0, i));
            Check.badIndex(Stores::mixed, "get over itself, slot " + i, x -> x.get(0, 0, i));
        }
        for (int i : new int[] {-1, 0, 1}) {
            Check.badIndex(Stores::mixed, "get of no slots, slot " + i, x -> x.get(9, 3, i));
        }
        TabledStore x = Stores.largest();
        x.make(0, 31, 4000, true);
        Check.due("get of 4000, slot 4000", Check.thrown(x, y -> y.get(1, 0, 4000)), Check.BAD_INDEX);
        Check.badIndex(Stores::withoutWords, "get behind the store's last word", y -> y.get(9, 0, 60));
    }

    private static void getFirstNamed() {
        Check.says("Terms: the one named first when several would do (get)");
        for (int i : new int[] {-1, 99}) {
            Check.badArgument("no register r, slot " + i, x -> x.get(32, 0, i));
            Check.badArgument("no register r, of no slots, slot " + i, x -> x.get(-1, 3, i));
            Check.badArgument("no register from, slot " + i, x -> x.get(0, 32, i));
            Check.badArgument("bytes, slot " + i, x -> x.get(9, 1, i));
            Check.badArgument("no bytes, slot " + i, x -> x.get(9, 4, i));
            Check.badArgument("a number, slot " + i, x -> x.get(9, 2, i));
            Check.badArgument("nil, slot " + i, x -> x.get(9, 20, i));
        }
    }

    private static void put() {
        Check.says("Promise 9: Slot i of register to's object becomes what register r is");
        TabledStore x = Stores.mixed();
        int[] from = {2, 3, 0, 1};
        int[] due = {42, 3, 1, 2};
        for (int k = 0; k < from.length; k++) {
            for (int i = 0; i < 3; i++) {
                x.put(0, i, from[k]);
                x.get(9, 0, i);
                Check.due("slot " + i + " of register " + from[k], x.value(9), due[k]);
            }
        }
        x.put(0, 1, 31);
        x.get(9, 0, 1);
        Check.due("nil", x.kind(9), 0);
        x.get(9, 0, 0);
        Check.due("the slot before stays", x.value(9), 2);
        x.get(9, 0, 2);
        Check.due("the slot behind stays", x.value(9), 2);
        Check.due("the object is the same", x.value(0), 1);
    }

    private static void putLetsGo() {
        Check.says("Terms: (What is not reachable any more takes none.) (put)");
        TabledStore x = new TabledStore(64, 16);
        x.make(0, 31, 1, true);
        x.make(1, 31, 10, true);
        x.put(0, 0, 1);
        x.clear(1);
        Check.due("words with what a slot has", x.words(), 45);
        x.put(0, 0, 31);
        Check.due("words without it", x.words(), 59);
    }

    private static void putFirstAndLast() {
        Check.says("Promise 9: Slot i of register to's object");
        for (int n : new int[] {1, 2, 4000}) {
            TabledStore x = Stores.largest();
            x.make(4, 31, 1, true);
            x.make(0, 31, n, true);
            x.make(5, 31, 1, true);
            x.number(1, 11);
            x.put(0, 0, 1);
            x.put(0, n - 1, 1);
            Check.due("the first and the last of " + n, x.owners(1), n == 1 ? 2 : 3);
            x.get(6, 4, 0);
            Check.due("the object before stays", x.kind(6), 0);
            Check.due("the object behind stays", x.value(5), 3);
        }
    }

    private static void putRegisters() {
        Check.says("Promise 9: register to's object .. register r");
        TabledStore x = Stores.slotsEverywhere();
        x.put(0, 1, 31);
        x.get(5, 0, 1);
        Check.due("the last put into the first", x.value(5), 32);
        x.put(31, 1, 0);
        x.get(5, 31, 1);
        Check.due("the first put into the last", x.value(5), 1);
    }

    private static void putNoSuchRegister() {
        Check.says("Promise 9: there is no such register");
        Check.badRegister("put into", (x, r) -> x.put(r, 0, 0));
        Check.badRegister("put of", (x, r) -> x.put(0, 0, r));
        Check.badArgument("put with neither", x -> x.put(-1, 0, 32));
    }

    private static void putNoSlots() {
        Check.says("Promise 9: or to has no object of slots");
        Check.badArgument("put into bytes", x -> x.put(1, 0, 2));
        Check.badArgument("put into a number", x -> x.put(2, 0, 2));
        Check.badArgument("put into nil", x -> x.put(20, 0, 2));
    }

    private static void putNoSuchSlot() {
        Check.says("Promise 9: IndexOutOfBoundsException: it has no such slot");
        for (int i : OUTSIDE_OF_THREE) {
            Check.badIndex(Stores::mixed, "put of three, slot " + i, x -> x.put(0, i, 2));
        }
        for (int i : new int[] {-1, 0, 1}) {
            Check.badIndex(Stores::mixed, "put into no slots, slot " + i, x -> x.put(3, i, 2));
        }
        TabledStore x = Stores.largest();
        x.make(0, 31, 4000, true);
        Check.due("put of 4000, slot 4000", Check.thrown(x, y -> y.put(0, 4000, 1)), Check.BAD_INDEX);
        Check.badIndex(Stores::withoutWords, "put behind the store's last word", y -> y.put(0, 60, 1));
    }

    private static void putFirstNamed() {
        Check.says("Terms: the one named first when several would do (put)");
        for (int i : new int[] {-1, 99}) {
            Check.badArgument("no register r, slot " + i, x -> x.put(0, i, 32));
            Check.badArgument("no register r, of no slots, slot " + i, x -> x.put(3, i, -1));
            Check.badArgument("no register to, slot " + i, x -> x.put(32, i, 0));
            Check.badArgument("bytes, slot " + i, x -> x.put(1, i, 2));
            Check.badArgument("no bytes, slot " + i, x -> x.put(4, i, 2));
            Check.badArgument("a number, slot " + i, x -> x.put(2, i, 2));
            Check.badArgument("nil, slot " + i, x -> x.put(20, i, 2));
        }
    }
}
