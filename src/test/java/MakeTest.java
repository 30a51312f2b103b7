/** Promise 5: make. */
public final class MakeTest {
    public static void main(String[] args) {
        slots();
        bytes();
        itsClass();
        registers();
        countsTillItIsMade();
        entryCountsTillItIsMade();
        noNumberIsUsed();
        noSuchRegister();
        noSuchN();
        cannotBeMade();
        firstNamed();
        roomUsedAgain();
        Check.end();
    }

    private static void slots() {
        Check.says("Promise 5: Register r becomes a new object of n slots (0 .. 4000)");
        for (int n : new int[] {0, 1, 2, 3999, 4000}) {
            TabledStore x = Stores.largest();
            Check.due("make of slots " + n, x.make(3, 31, n, true), 1);
            Check.due("its kind", x.kind(3), 2);
            Check.due("its size", x.size(3), n);
            Check.due("nil in all of them", x.owners(31), 31 + 1 + n);
        }
    }

    private static void bytes() {
        Check.says("Promise 5: or else bytes (0 .. 16000)");
        for (int n : new int[] {0, 1, 4, 5, 4000, 4001, 15999, 16000}) {
            TabledStore x = Stores.largest();
            Check.due("make of bytes " + n, x.make(3, 31, n, false), 1);
            Check.due("its kind", x.kind(3), 3);
            Check.due("its size", x.size(3), n);
            Check.due("0 in all of them", x.sum(3), Sums.ofEqualBytes(n, 0));
        }
    }

    private static void itsClass() {
        Check.says("Promise 5: with the class that register c has");
        TabledStore x = new TabledStore(200, 16);
        x.make(0, 31, 1, true);
        x.classOf(5, 0);
        Check.due("nil", x.kind(5), 0);
        x.number(7, -1073741824);
        x.make(1, 7, 5, false);
        x.classOf(5, 1);
        Check.due("a number", x.value(5), -1073741824);
        x.make(2, 1, 0, true);
        x.classOf(5, 2);
        Check.due("an object", x.value(5), 2);
        Check.due("what the register itself had", x.make(2, 2, 0, true), 4);
        x.classOf(5, 2);
        Check.due("what the register itself had", x.value(5), 3);
        x.number(7, 3);
        x.classOf(5, 1);
        Check.due("and the class stays when the register changes", x.value(5), -1073741824);
    }

    private static void registers() {
        Check.says("Promise 5: Register r becomes .. register c has");
        TabledStore x = new TabledStore(200, 16);
        x.number(31, 8);
        x.make(0, 31, 1, true);
        x.make(31, 0, 1, true);
        Check.due("the first register", x.value(0), 1);
        Check.due("the last register", x.value(31), 2);
        x.classOf(5, 0);
        Check.due("class of the last register", x.value(5), 8);
        x.classOf(5, 31);
        Check.due("class of the first register", x.value(5), 1);
    }

    private static void countsTillItIsMade() {
        Check.says("Promise 5: (what r has counts as reachable till it is made)");
        Check.noRoom(Stores::withoutWords, "make over all there is", x -> x.make(0, 31, 0, true));
        Check.noRoom(() -> Stores.withWordsLeft(4), "make of 5 words beside 4", x -> x.make(0, 31, 1, true));
        TabledStore x = Stores.withWordsLeft(4);
        Check.due("make of 4 words beside 4", x.make(0, 31, 0, true), 2);
        Check.due("what was there is let go then", x.words(), 60);
        x = Stores.withWordsLeft(4);
        Check.due("make of 4 words, of the class that r had", x.make(0, 0, 0, true), 2);
        Check.due("what was there is its class then", x.words(), 0);
        x = Stores.withoutWords();
        x.clear(0);
        Check.due("make when it was cleared before", x.make(0, 31, 60, true), 2);
    }

    private static void entryCountsTillItIsMade() {
        Check.says("Promise 5: (what r has counts as reachable till it is made)");
        Check.noRoom(Stores::withoutEntries, "make over one of all entries", x -> x.make(7, 31, 0, true));
        TabledStore x = Stores.withEntriesLeft(1);
        Check.due("make with the last entry", x.make(7, 31, 0, true), 16);
        Check.due("entries then", x.entries(), 1);
        x = Stores.withoutEntries();
        x.clear(7);
        Check.due("make when it was cleared before", x.make(7, 31, 0, true), 17);
        Check.due("entries then", x.entries(), 0);
    }

    private static void noNumberIsUsed() {
        Check.says("Promise 5: Answers its identity (when it cannot be made no number is used)");
        TabledStore x = Stores.withWordsLeft(8);
        for (int turn = 0; turn < 3; turn++) {
            Check.due("too many slots", Check.thrown(x, y -> y.make(2, 31, 5, true)), Check.NO_ROOM);
            Check.due("too many bytes", Check.thrown(x, y -> y.make(2, 31, 17, false)), Check.NO_ROOM);
            Check.due("no such n", Check.thrown(x, y -> y.make(2, 31, -1, false)), Check.BAD_ARGUMENT);
        }
        Check.due("the next that is made", x.make(2, 31, 4, true), 2);
        Check.due("and value of it", x.value(2), 2);
        x = Stores.withoutEntries();
        for (int turn = 0; turn < 3; turn++) {
            Check.due("without an entry", Check.thrown(x, y -> y.make(25, 31, 0, true)), Check.NO_ROOM);
        }
        x.clear(0);
        Check.due("the next that is made", x.make(25, 31, 0, true), 17);
    }

    private static void noSuchRegister() {
        Check.says("Promise 5: there is no such register");
        Check.badRegister("make into", (x, r) -> x.make(r, 0, 1, true));
        Check.badRegister("make of class", (x, r) -> x.make(0, r, 1, true));
        Check.badRegister("make of bytes into", (x, r) -> x.make(r, 0, 1, false));
        Check.badRegister("make of bytes of class", (x, r) -> x.make(0, r, 1, false));
    }

    private static void noSuchN() {
        Check.says("Promise 5: there is no such register or n");
        for (int n : new int[] {-1, 4001, 16000, Integer.MIN_VALUE, Integer.MAX_VALUE}) {
            Check.badArgument("make of slots " + n, x -> x.make(0, 0, n, true));
            Check.badArgument(Stores::largest, "make of slots " + n + ", with room", x -> x.make(0, 0, n, true));
        }
        for (int n : new int[] {-1, 16001, Integer.MIN_VALUE, Integer.MAX_VALUE}) {
            Check.badArgument("make of bytes " + n, x -> x.make(0, 0, n, false));
            Check.badArgument(Stores::largest, "make of bytes " + n + ", with room", x -> x.make(0, 0, n, false));
        }
    }

    private static void cannotBeMade() {
        Check.says("Promise 5: UnsupportedOperationException: it cannot be made");
        Check.noRoom(Stores::mixed, "make of the most slots", x -> x.make(0, 0, 4000, true));
        Check.noRoom(Stores::mixed, "make of the most bytes", x -> x.make(0, 0, 16000, false));
        Check.noRoom(Stores::mixed, "make into nil", x -> x.make(30, 0, 4000, true));
        Check.noRoom(Stores::mixed, "make into a number", x -> x.make(2, 0, 4000, true));
        Check.noRoom(Stores::withoutWords, "make without words", x -> x.make(1, 0, 0, true));
        Check.noRoom(Stores::withoutEntries, "make without entries", x -> x.make(20, 0, 0, false));
    }

    private static void firstNamed() {
        Check.says("Terms: the one named first when several would do (make)");
        for (Check.Maker full : new Check.Maker[] {Stores::withoutWords, Stores::withoutEntries}) {
            Check.badArgument(full, "no register r and no room", x -> x.make(32, 0, 1, true));
            Check.badArgument(full, "no register c and no room", x -> x.make(0, -1, 1, true));
            Check.badArgument(full, "no such slots and no room", x -> x.make(0, 0, 4001, true));
            Check.badArgument(full, "no such bytes and no room", x -> x.make(0, 0, 16001, false));
            Check.badArgument(full, "n below 0 and no room", x -> x.make(0, 0, -1, true));
            Check.badArgument(full, "nothing right and no room", x -> x.make(-1, 32, -1, false));
        }
    }

    private static void roomUsedAgain() {
        Check.says("Terms: each a value (at first nil) .. each 0 .. 255 (at first 0)");
        TabledStore x = new TabledStore(64, 16);
        x.make(0, 31, 60, true);
        for (int i = 0; i < 60; i++) {
            x.put(0, i, 0);
        }
        x.clear(0);
        x.make(0, 31, 240, false);
        Check.due("bytes where slots were", x.sum(0), Sums.ofEqualBytes(240, 0));
        for (int i = 0; i < 240; i += 8) {
            x.bytePut(0, i, -1L);
        }
        x.clear(0);
        x.make(0, 31, 60, true);
        Check.due("slots where bytes were", x.owners(31), 31 + 61);
    }
}
