/** Promises 19 words, 20 entries. */
public final class RoomTest {
    public static void main(String[] args) {
        wordsEmptyAndFull();
        wordsForOneMore();
        wordsWithoutEntries();
        wordsOfReachableObjects();
        entriesEmptyAndFull();
        entriesForMore();
        entriesWithoutWords();
        entriesOfReachableObjects();
        ringsOutOfReach();
        usedOverAndOver();
        asked();
        Check.end();
    }

    private static void wordsEmptyAndFull() {
        Check.says("Promise 19: all words but those that reachable objects take");
        Check.due("an empty store", new TabledStore(64, 16).words(), 64);
        Check.due("the largest empty store", Stores.largest().words(), 65536);
        for (int left = 0; left <= 8; left++) {
            Check.due("a store with so many left", Stores.withWordsLeft(left).words(), left);
        }
        TabledStore x = Stores.withoutWords();
        x.clear(0);
        Check.due("a store empty again", x.words(), 64);
    }

    private static void wordsForOneMore() {
        Check.says("Promise 19: How many words could be had for one more object, its own 4 too");
        for (int left : new int[] {4, 5, 30, 56}) {
            TabledStore x = Stores.withWordsLeft(left);
            Check.due("make of one slot more", Check.thrown(x, y -> y.make(2, 31, y.words() - 3, true)),
                    Check.NO_ROOM);
            Check.due("make of all of them", x.make(2, 31, x.words() - 4, true), 2);
            Check.due("words then", x.words(), 0);
        }
    }

    private static void wordsWithoutEntries() {
        Check.says("Promise 19: if there are entries");
        Check.due("words without entries", Stores.withoutEntries().words(), 4096 - 16 * 5);
        Check.due("words with one entry", Stores.withEntriesLeft(1).words(), 4096 - 15 * 5);
    }

    private static void wordsOfReachableObjects() {
        Check.says("Promise 19: those that reachable objects take");
        TabledStore x = new TabledStore(100, 20);
        x.make(0, 31, 1, true);
        x.make(1, 0, 1, true);
        x.make(2, 31, 2, true);
        x.put(2, 1, 1);
        x.clear(0);
        x.clear(1);
        Check.due("one by slot and one by class", x.words(), 84);
        x.make(3, 2, 4, false);
        x.clear(2);
        Check.due("all by the class of bytes", x.words(), 79);
        x.bytePut(3, 0, -1L);
        x.clear(3);
        Check.due("none", x.words(), 100);
        x.make(0, 31, 1, true);
        x.make(0, 31, 2, true);
        Check.due("after make over an object", x.words(), 94);
        x.copy(0, 0);
        Check.due("after copy over an object", x.words(), 94);
        x.number(0, 0);
        Check.due("after number over an object", x.words(), 100);
        x.make(0, 31, 1, true);
        x.make(1, 31, 1, true);
        x.instance(0, 31, 1);
        Check.due("after instance over an object", x.words(), 95);
    }

    private static void entriesEmptyAndFull() {
        Check.says("Promise 20: How many more objects could be made");
        Check.due("an empty store", new TabledStore(64, 16).entries(), 16);
        Check.due("the largest empty store", Stores.largest().entries(), 8192);
        for (int left = 0; left <= 16; left++) {
            Check.due("a store with so many left", Stores.withEntriesLeft(left).entries(), left);
        }
        TabledStore x = Stores.withoutEntries();
        for (int r = 0; r < 16; r++) {
            x.clear(r);
        }
        Check.due("a store empty again", x.entries(), 16);
    }

    private static void entriesForMore() {
        Check.says("Promise 20: How many more objects could be made");
        for (int left : new int[] {0, 1, 5, 16}) {
            TabledStore x = Stores.withEntriesLeft(left);
            int many = x.entries();
            Check.due("made of " + left, x.chain(25, 31, 1, many + 1), many);
            Check.due("entries then", x.entries(), 0);
        }
    }

    private static void entriesWithoutWords() {
        Check.says("Promise 20: if there are words");
        Check.due("entries without words", Stores.withoutWords().entries(), 15);
        Check.due("entries with too few words", Stores.withWordsLeft(3).entries(), 15);
    }

    /** entries is asked first here, before another call could have looked at what is reachable. */
    private static void entriesOfReachableObjects() {
        Check.says("Promise 20: How many more objects could be made");
        TabledStore x = new TabledStore(100, 20);
        x.chain(0, 31, 1, 5);
        Check.due("beside five", x.entries(), 15);
        x.walk(0, 0, 2);
        Check.due("beside three", x.entries(), 17);
        x.make(1, 0, 0, false);
        x.clear(0);
        Check.due("beside three by a class", x.entries(), 16);
        x.clear(1);
        Check.due("beside none", x.entries(), 20);
    }

    private static void ringsOutOfReach() {
        Check.says("Terms: (What is not reachable any more takes none.)");
        TabledStore x = new TabledStore(100, 20);
        x.make(0, 31, 1, true);
        x.make(1, 0, 1, true);
        x.put(0, 0, 1);
        x.put(1, 0, 0);
        x.setClass(0, 0);
        x.clear(0);
        Check.due("words with a ring", x.words(), 90);
        x.clear(1);
        Check.due("words without the ring", x.words(), 100);
        Check.due("entries without the ring", x.entries(), 20);
    }

    private static void usedOverAndOver() {
        Check.says("Terms: An object CAN BE MADE when it and all reachable objects together take no more");
        TabledStore x = new TabledStore(256, 16);
        x.make(0, 31, 3, true);
        x.make(1, 0, 16, false);
        x.bytePut(1, 3, 0x7172737475767778L);
        x.put(0, 2, 1);
        int sum = x.sum(1);
        for (int i = 0; i < 200; i++) {
            Check.due("make over and over", x.make(5, 5, 40 + i % 7, i % 2 == 0), i + 3);
            x.clear(5);
        }
        x.get(6, 0, 2);
        Check.due("a slot then", x.value(6), 2);
        Check.due("a sum then", x.sum(6), sum);
        Check.due("words then", x.words(), 256 - 7 - 8);
        Check.due("entries then", x.entries(), 14);
    }

    private static void asked() {
        Check.says("Promises 19, 20: asking changes nothing");
        Check.Maker[] makers = {Stores::mixed, Stores::withoutWords, Stores::withoutEntries, RoomTest::untidy};
        for (Check.Maker maker : makers) {
            Check.stays(maker, "words", x -> x.words());
            Check.stays(maker, "entries", x -> x.entries());
        }
    }

    private static TabledStore untidy() {
        TabledStore x = Stores.mixed();
        x.make(5, 0, 4, true);
        x.make(6, 5, 4, false);
        x.clear(5);
        x.chain(7, 6, 2, 3);
        x.walk(7, 0, 2);
        x.clear(6);
        return x;
    }
}
