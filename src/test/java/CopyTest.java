/** Promise 6: copy. */
public final class CopyTest {
    public static void main(String[] args) {
        slots();
        bytes();
        ofItsOwn();
        smallestAndLargest();
        ofWhatHasItself();
        registers();
        identities();
        noSuchRegister();
        noObject();
        lastWords();
        lastEntry();
        countsTillItIsMade();
        firstNamed();
        movedWhileCopied();
        Check.end();
    }

    private static void slots() {
        Check.says("Promise 6: with its class, kind, size, slots");
        TabledStore x = Stores.mixed();
        x.put(0, 0, 0);
        x.put(0, 2, 2);
        x.setClass(0, 4);
        Check.due("copy of slots", x.copy(8, 0), 5);
        Check.due("its kind", x.kind(8), 2);
        Check.due("its size", x.size(8), 3);
        int[] due = {1, 3, 42};
        for (int i = 0; i < 3; i++) {
            x.get(9, 8, i);
            Check.due("its slot " + i, x.value(9), due[i]);
        }
        x.classOf(9, 8);
        Check.due("its class", x.value(9), 4);
    }

    private static void bytes() {
        Check.says("Promise 6: with its class, kind, size, .. bytes");
        for (int n = 0; n <= 9; n++) {
            TabledStore x = new TabledStore(64, 16);
            x.number(1, 6);
            x.make(0, 1, n, false);
            if (n > 0) {
                x.bytePut(0, 0, 0x8182838485868788L);
            }
            x.copy(2, 0);
            Check.due("kind of " + n, x.kind(2), 3);
            Check.due("size of " + n, x.size(2), n);
            Check.due("sum of " + n, x.sum(2), x.sum(0));
            for (int i = 0; i < n; i++) {
                Check.due("byte " + i + " of " + n, x.byteAt(2, i), i < 8 ? 0x81 + i : 0);
            }
            x.classOf(3, 2);
            Check.due("class of " + n, x.value(3), 6);
        }
    }

    private static void ofItsOwn() {
        Check.says("Promise 6: Register r becomes a new object");
        TabledStore x = Stores.mixed();
        x.copy(8, 0);
        x.put(8, 2, 2);
        x.get(9, 0, 2);
        Check.due("the first one's slot stays", x.kind(9), 0);
        x.put(0, 0, 2);
        x.get(9, 8, 0);
        Check.due("the copy's slot stays", x.kind(9), 0);
        x.setClass(8, 2);
        x.classOf(9, 0);
        Check.due("the first one's class stays", x.kind(9), 0);
        int sum = x.sum(1);
        x.copy(10, 1);
        x.bytePut(10, 0, -1L);
        Check.due("the first one's bytes stay", x.sum(1), sum);
    }

    private static void smallestAndLargest() {
        Check.says("Promise 6: a new object like that in register from");
        TabledStore x = Stores.largest();
        x.number(1, 77);
        x.make(0, 31, 4000, true);
        x.put(0, 3999, 1);
        x.copy(2, 0);
        Check.due("size of the most slots", x.size(2), 4000);
        x.get(3, 2, 3999);
        Check.due("the last of the most slots", x.value(3), 77);
        Check.due("words beside both", x.words(), 65536 - 8008);
        x.make(0, 31, 16000, false);
        x.bytePut(0, 15999, -1L);
        x.copy(2, 0);
        Check.due("size of the most bytes", x.size(2), 16000);
        Check.due("the last of the most bytes", x.byteAt(2, 15999), 255);
        Check.due("all of the most bytes", x.sum(2), x.sum(0));
        x.make(0, 31, 0, true);
        Check.due("copy of no slots", x.copy(2, 0), 6);
        Check.due("its kind", x.kind(2), 2);
        Check.due("its size", x.size(2), 0);
        x.make(0, 31, 0, false);
        Check.due("copy of no bytes", x.copy(2, 0), 8);
        Check.due("its kind", x.kind(2), 3);
        Check.due("its size", x.size(2), 0);
        Check.due("words beside both", x.words(), 65536 - 8);
    }

    private static void ofWhatHasItself() {
        Check.says("Promise 6: with its class .. slots");
        TabledStore x = new TabledStore(64, 16);
        x.make(0, 31, 1, true);
        x.put(0, 0, 0);
        x.setClass(0, 0);
        x.copy(1, 0);
        x.get(2, 1, 0);
        Check.due("its slot has the first one", x.value(2), 1);
        x.classOf(2, 1);
        Check.due("its class is the first one", x.value(2), 1);
        x.get(2, 0, 0);
        Check.due("the first one's slot", x.value(2), 1);
    }

    private static void registers() {
        Check.says("Promise 6: Register r becomes .. that in register from");
        TabledStore x = Stores.slotsEverywhere();
        Check.due("from the last to the first", x.copy(0, 31), 33);
        x.get(5, 0, 0);
        Check.due("its slot", x.value(5), 131);
        Check.due("from the first to the last", x.copy(31, 0), 34);
        Check.due("and there it is", x.value(31), 34);
        Check.due("onto itself", x.copy(7, 7), 35);
        x.get(5, 7, 0);
        Check.due("its slot", x.value(5), 107);
        Check.due("what was there is let go", x.words(), 400 - 31 * 6);
    }

    private static void identities() {
        Check.says("Promise 6: Answers its identity");
        TabledStore x = new TabledStore(64, 16);
        x.make(0, 31, 5, true);
        Check.due("the first copy", x.copy(1, 0), 2);
        Check.due("a copy of the copy", x.copy(1, 1), 3);
        Check.due("its value", x.value(1), 3);
        Check.due("the first one's value", x.value(0), 1);
        x = new TabledStore(64, 16);
        x.make(0, 31, 40, true);
        for (int turn = 0; turn < 3; turn++) {
            Check.due("copy without room", Check.thrown(x, y -> y.copy(1, 0)), Check.NO_ROOM);
        }
        Check.due("no number was used", x.make(1, 31, 0, true), 2);
    }

    private static void noSuchRegister() {
        Check.says("Promise 6: there is no such register");
        Check.badRegister("copy into", (x, r) -> x.copy(r, 0));
        Check.badRegister("copy from", (x, r) -> x.copy(0, r));
        Check.badArgument("copy with neither", x -> x.copy(-1, 32));
    }

    private static void noObject() {
        Check.says("Promise 6: or from has no object");
        Check.badArgument("copy of a number", x -> x.copy(0, 2));
        Check.badArgument("copy of nil", x -> x.copy(0, 20));
        Check.badArgument("copy of a number onto itself", x -> x.copy(2, 2));
        Check.badArgument(() -> new TabledStore(64, 16), "copy in an empty store", x -> x.copy(0, 0));
    }

    private static void lastWords() {
        Check.says("Promise 6: UnsupportedOperationException: it cannot be made");
        copyOfHalf(28, true, true);
        copyOfHalf(29, true, false);
        copyOfHalf(112, false, true);
        copyOfHalf(113, false, false);
        Check.noRoom(Stores::withoutWords, "copy without words", x -> x.copy(1, 0));
    }

    private static void copyOfHalf(int n, boolean slots, boolean fits) {
        Check.Maker maker = () -> {
            TabledStore x = new TabledStore(64, 16);
            x.make(0, 31, n, slots);
            return x;
        };
        String what = "copy of " + n + (slots ? " slots" : " bytes");
        if (fits) {
            TabledStore x = maker.make();
            Check.due(what, x.copy(1, 0), 2);
            Check.due("words then", x.words(), 0);
        } else {
            Check.noRoom(maker, what, x -> x.copy(1, 0));
        }
    }

    private static void lastEntry() {
        Check.says("Promise 6: UnsupportedOperationException: it cannot be made");
        TabledStore x = Stores.withEntriesLeft(1);
        Check.due("copy with the last entry", x.copy(25, 0), 16);
        Check.due("entries then", x.entries(), 0);
        Check.noRoom(Stores::withoutEntries, "copy without an entry", y -> y.copy(25, 0));
    }

    /** The document says it of make, and its term CAN BE MADE of every object. */
    private static void countsTillItIsMade() {
        Check.says("Terms: when it and all reachable objects together take no more words and entries (copy)");
        Check.noRoom(Stores::withoutEntries, "copy over one of all entries", x -> x.copy(3, 4));
        Check.noRoom(Stores::withoutEntries, "copy onto itself, of all entries", x -> x.copy(3, 3));
        Check.noRoom(() -> ofTwo(18, 17), "copy of 22 words over 21, beside 21", x -> x.copy(1, 0));
        TabledStore x = ofTwo(18, 16);
        Check.due("copy of 22 words over 20, beside 22", x.copy(1, 0), 3);
        Check.due("words then", x.words(), 20);
    }

    private static TabledStore ofTwo(int slotsOfFirst, int slotsOfSecond) {
        TabledStore x = new TabledStore(64, 16);
        x.make(0, 31, slotsOfFirst, true);
        x.make(1, 31, slotsOfSecond, true);
        return x;
    }

    private static void firstNamed() {
        Check.says("Terms: the one named first when several would do (copy)");
        for (Check.Maker full : new Check.Maker[] {Stores::withoutWords, Stores::withoutEntries}) {
            Check.badArgument(full, "no register r and no room", x -> x.copy(32, 0));
            Check.badArgument(full, "no register from and no room", x -> x.copy(0, -1));
            Check.badArgument(full, "nil and no room", x -> x.copy(0, 30));
        }
        Check.badArgument(Stores::withoutWords, "a number and no room", x -> x.copy(0, 1));
        Check.badArgument(Stores::withoutEntries, "a number and no room", x -> x.copy(0, 20));
    }

    private static void movedWhileCopied() {
        Check.says("Terms: (What is not reachable any more takes none.) (copy)");
        TabledStore x = new TabledStore(64, 16);
        x.make(1, 31, 10, true);
        x.make(0, 31, 28, true);
        x.number(2, 6);
        x.put(0, 0, 2);
        x.put(0, 27, 0);
        x.clear(1);
        Check.due("copy of what must be moved first", x.copy(1, 0), 3);
        x.get(3, 1, 0);
        Check.due("its first slot", x.value(3), 6);
        x.get(3, 1, 27);
        Check.due("its last slot", x.value(3), 2);
        Check.due("words then", x.words(), 0);
    }
}
