/** The document's terms: values, identities, registers, what is reachable, room. */
public final class TermsTest {
    private static final int LOWEST = -1073741824;
    private static final int HIGHEST = 1073741823;

    public static void main(String[] args) {
        numbersAtTheirBounds();
        numbersAreNotNilNorObjects();
        classIsAnyValue();
        slotsAtFirst();
        bytesAtFirst();
        bytesAtTheirBounds();
        identities();
        manyIdentities();
        registers();
        reachableByEachRegister();
        reachableByClassAndSlots();
        reachableFarOff();
        whatSlotsTake();
        whatBytesTake();
        lastThatCanBeMade();
        unreachableTakesNone();
        ownMemory();
        Check.end();
    }

    private static void numbersAtTheirBounds() {
        Check.says("Terms: NUMBERS (-1073741824 .. 1073741823)");
        TabledStore x = new TabledStore(64, 16);
        x.make(0, 31, 2, true);
        for (int v : new int[] {LOWEST, LOWEST + 1, HIGHEST - 1, HIGHEST}) {
            x.number(1, v);
            Check.due("in a register", x.value(1), v);
            x.put(0, 0, 1);
            x.setClass(0, 1);
            x.get(2, 0, 0);
            Check.due("in a slot", x.value(2), v);
            x.classOf(3, 0);
            Check.due("as a class", x.value(3), v);
            Check.due("all of them", x.owners(1), 5);
            Check.due("an object of that class", x.instance(4, 1, 0), 1);
            x.clear(4);
        }
        Check.badNumbers("number", (y, v) -> y.number(0, v),
                LOWEST - 1, HIGHEST + 1, Integer.MIN_VALUE, Integer.MAX_VALUE);
    }

    private static void numbersAreNotNilNorObjects() {
        Check.says("Terms: VALUES are NIL, NUMBERS .. and OBJECTS");
        TabledStore x = new TabledStore(64, 16);
        x.make(0, 31, 0, true);
        int[] numbers = {0, 1, 2, -1, -2, LOWEST, HIGHEST};
        for (int k = 0; k < numbers.length; k++) {
            x.number(k + 1, numbers[k]);
        }
        for (int r = 0; r <= numbers.length; r++) {
            Check.due("no other value is the same as register " + r, x.owners(r), 1);
        }
        Check.due("nil", x.owners(31), 32 - 1 - numbers.length + 1);
    }

    /** Register 2 a number, 0 an object of slots, 1 one of bytes, 3 no slots, 4 no bytes, 31 nil. */
    private static void classIsAnyValue() {
        Check.says("Terms: An object has a CLASS (any value)");
        for (int c : new int[] {0, 1, 2, 3, 4, 31}) {
            for (int r : new int[] {0, 1, 3, 4}) {
                TabledStore x = Stores.mixed();
                x.setClass(r, c);
                x.classOf(9, r);
                Check.due("kind of the class of " + r, x.kind(9), x.kind(c));
                Check.due("the class of " + r, x.value(9), x.value(c));
                x.make(10, c, 1, r % 2 == 0);
                x.classOf(9, 10);
                Check.due("kind of the class of a new one", x.kind(9), x.kind(c));
                Check.due("the class of a new one", x.value(9), x.value(c));
            }
        }
    }

    private static void slotsAtFirst() {
        Check.says("Terms: of N SLOTS, each a value (at first nil)");
        for (int n : new int[] {1, 2, 4000}) {
            TabledStore x = Stores.largest();
            x.number(1, 3);
            x.make(0, 1, n, true);
            x.number(2, 3);
            x.get(2, 0, 0);
            Check.due("the first of " + n, x.kind(2), 0);
            x.number(2, 3);
            x.get(2, 0, n - 1);
            Check.due("the last of " + n, x.kind(2), 0);
            Check.due("all of " + n, x.owners(31), 30 + n);
        }
    }

    private static void bytesAtFirst() {
        Check.says("Terms: or of N BYTES, each 0 .. 255 (at first 0)");
        for (int n : new int[] {1, 3, 4, 5, 300}) {
            TabledStore x = Stores.largest();
            x.make(0, 31, n, false);
            for (int i = 0; i < n; i++) {
                Check.due("byte " + i + " of " + n, x.byteAt(0, i), 0);
            }
        }
        TabledStore x = Stores.largest();
        x.make(0, 31, 16000, false);
        Check.due("the last of 16000", x.byteAt(0, 15999), 0);
    }

    private static void bytesAtTheirBounds() {
        Check.says("Terms: or of N BYTES, each 0 .. 255");
        TabledStore x = new TabledStore(64, 16);
        x.make(0, 31, 8, false);
        x.bytePut(0, 0, 0x00017f80feff00ffL);
        int[] due = {0, 1, 127, 128, 254, 255, 0, 255};
        for (int i = 0; i < due.length; i++) {
            Check.due("byte " + i, x.byteAt(0, i), due[i]);
        }
    }

    private static void identities() {
        Check.says("Terms: objects made are numbered from 1 on, as they are made, copies too");
        TabledStore x = new TabledStore(300, 40);
        Check.due("the first", x.make(0, 31, 1, true), 1);
        Check.due("the second, a copy", x.copy(1, 0), 2);
        x.chain(2, 31, 1, 3);
        Check.due("the fifth, a chain's last", x.value(2), 5);
        x.walk(2, 0, 2);
        Check.due("the third, a chain's first", x.value(2), 3);
        Check.due("the sixth, of bytes", x.make(3, 31, 1, false), 6);
        x.clear(3);
        Check.due("no number is used again", x.make(3, 31, 1, false), 7);
        x.become(0, 3);
        Check.due("places changed use none", x.make(4, 31, 0, true), 8);
        Check.due("each store has its own", new TabledStore(64, 16).make(0, 0, 0, true), 1);
    }

    /** As many as a store's 512 calls make when each other call clears what was made. */
    private static void manyIdentities() {
        Check.says("Terms: objects made are numbered from 1 on");
        TabledStore x = Stores.largest();
        for (int turn = 1; turn <= 255; turn++) {
            x.clear(0);
            x.chain(0, 31, 1, 4000);
        }
        Check.due("the last of a million", x.value(0), 255 * 4000);
        Check.due("and the 512th call", x.entries(), 8192 - 4000);
    }

    private static void registers() {
        Check.says("Terms: REGISTERS 0 .. 31, each a value, at first nil");
        TabledStore x = new TabledStore(64, 16);
        for (int r = 0; r < 32; r++) {
            Check.due("at first, register " + r, x.kind(r), 0);
        }
        for (int r = 0; r < 32; r++) {
            x.number(r, 7 * r);
        }
        for (int r = 0; r < 32; r++) {
            Check.due("each its own, register " + r, x.value(r), 7 * r);
        }
        Check.badRegister("kind", (y, r) -> y.kind(r));
    }

    private static void reachableByEachRegister() {
        Check.says("Terms: REACHABLE is what a register has");
        for (int r = 0; r < 32; r++) {
            TabledStore x = new TabledStore(64, 16);
            x.make(r, (r + 1) % 32, 6, true);
            Check.due("words with an object in register " + r, x.words(), 54);
            x.clear(r);
            Check.due("words without it", x.words(), 64);
        }
    }

    private static void reachableByClassAndSlots() {
        Check.says("Terms: and of each reachable object its class and what its slots have");
        for (int i = -1; i < 5; i++) {
            TabledStore x = new TabledStore(64, 16);
            x.make(0, 31, 5, true);
            x.make(1, 31, 3, true);
            if (i < 0) {
                x.setClass(0, 1);
            } else {
                x.put(0, i, 1);
            }
            x.clear(1);
            String by = i < 0 ? "class" : "slot " + i;
            Check.due("words with one by the " + by, x.words(), 64 - 9 - 7);
            Check.due("entries with one by the " + by, x.entries(), 14);
        }
        TabledStore x = new TabledStore(64, 16);
        x.make(0, 31, 3, true);
        x.make(1, 0, 0, false);
        x.clear(0);
        Check.due("words with one by the class of no bytes", x.words(), 64 - 7 - 4);
    }

    private static void reachableFarOff() {
        Check.says("Terms: and of each reachable object ..");
        TabledStore x = Stores.largest();
        x.chain(0, 0, 1, 4000);
        x.chain(0, 31, 1, 4000);
        Check.due("one by one by slots", x.entries(), 192);
        x.put(0, 0, 0);
        Check.due("all but one let go", x.entries(), 8191);
        Check.due("one by one by classes", x.chain(2, 2, 1, 4000), 4000);
        x.put(2, 0, 31);
        Check.due("the last one's class leads to all", x.entries(), 8191 - 4000);
        x.clear(2);
        Check.due("and let go", x.entries(), 8191);
    }

    private static void whatSlotsTake() {
        Check.says("Terms: An object takes 4 WORDS and one for each slot .. and one ENTRY");
        for (int n : new int[] {0, 1, 2, 3, 4, 5, 3999, 4000}) {
            TabledStore x = Stores.largest();
            x.make(0, 31, n, true);
            Check.due("words beside " + n + " slots", x.words(), 65536 - 4 - n);
            Check.due("entries beside " + n + " slots", x.entries(), 8191);
        }
    }

    private static void whatBytesTake() {
        Check.says("Terms: or one for each four bytes or part of four; and one ENTRY");
        int[] sizes = {0, 1, 2, 3, 4, 5, 7, 8, 9, 15996, 15997, 15999, 16000};
        int[] due = {0, 1, 1, 1, 1, 2, 2, 2, 3, 3999, 4000, 4000, 4000};
        for (int k = 0; k < sizes.length; k++) {
            TabledStore x = Stores.largest();
            x.make(0, 31, sizes[k], false);
            Check.due("words beside " + sizes[k] + " bytes", x.words(), 65536 - 4 - due[k]);
            Check.due("entries beside " + sizes[k] + " bytes", x.entries(), 8191);
        }
    }

    private static void lastThatCanBeMade() {
        Check.says("Terms: when it and all reachable objects together take no more words and entries than that");
        for (int left = 4; left <= 12; left++) {
            int spared = left - 4;
            Check.Maker maker = () -> Stores.withWordsLeft(spared + 4);
            Check.taken(maker, "slots in " + left + " words:", (x, n) -> x.make(2, 31, n, true), spared);
            Check.noRoom(maker, "a slot more in " + left + " words", x -> x.make(2, 31, spared + 1, true));
            Check.taken(maker, "bytes in " + left + " words:", (x, n) -> x.make(2, 31, n, false), 4 * spared);
            Check.noRoom(maker, "a byte more in " + left + " words", x -> x.make(2, 31, 4 * spared + 1, false));
        }
        for (int left = 0; left < 4; left++) {
            int few = left;
            Check.Maker maker = () -> Stores.withWordsLeft(few);
            Check.noRoom(maker, "no slots in " + left + " words", x -> x.make(2, 31, 0, true));
            Check.noRoom(maker, "no bytes in " + left + " words", x -> x.make(2, 31, 0, false));
        }
        Check.Maker lastEntry = () -> Stores.withEntriesLeft(1);
        Check.taken(lastEntry, "the last entry, slots", (x, n) -> x.make(18, 31, n, true), 0, 4000);
        Check.noRoom(Stores::withoutEntries, "no entry, no slots", x -> x.make(18, 31, 0, true));
        Check.noRoom(Stores::withoutEntries, "no entry, no bytes", x -> x.make(18, 31, 0, false));
    }

    private static void unreachableTakesNone() {
        Check.says("Terms: (What is not reachable any more takes none.)");
        for (int gone = 0; gone < 4; gone++) {
            TabledStore x = new TabledStore(64, 16);
            for (int r = 0; r < 4; r++) {
                x.make(r, 31, 12, true);
                x.number(9, 50 + r);
                x.put(r, 11, 9);
            }
            x.clear(gone);
            Check.due("made where object " + gone + " was", x.make(8, 31, 48, false), 5);
            Check.due("words then", x.words(), 0);
            Check.due("its bytes", x.sum(8), Sums.ofEqualBytes(48, 0));
            for (int r = 0; r < 4; r++) {
                if (r != gone) {
                    x.get(9, r, 11);
                    Check.due("object " + r + " stays", x.value(9), 50 + r);
                }
            }
        }
        TabledStore x = Stores.withoutEntries();
        x.clear(5);
        Check.due("made with the entry that was let go", x.make(5, 31, 0, true), 17);
        Check.due("entries then", x.entries(), 0);
    }

    private static void ownMemory() {
        Check.says("Terms: All memory is the store's own");
        TabledStore x = new TabledStore(64, 16);
        TabledStore y = new TabledStore(64, 16);
        x.make(0, 31, 8, false);
        x.bytePut(0, 0, -1L);
        Check.due("the other's register", y.kind(0), 0);
        Check.due("the other's words", y.words(), 64);
        Check.due("the other's first identity", y.make(0, 31, 60, true), 1);
        y.get(1, 0, 59);
        Check.due("the other's slots", y.kind(1), 0);
        Check.due("and back: words", x.words(), 58);
        Check.due("and back: bytes", x.byteAt(0, 7), 255);
    }
}
