/** Promise 1: a new object. */
public final class NewStoreTest {
    public static void main(String[] args) {
        words();
        otherWords();
        entries();
        otherEntries();
        bothOther();
        wordsToTheLast();
        entriesToTheLast();
        empty();
        Check.end();
    }

    private static void words() {
        Check.says("Promise 1: so many words (64 .. 65536");
        for (int words : new int[] {64, 65, 100, 65535, 65536}) {
            TabledStore x = new TabledStore(words, 16);
            Check.due("words of " + words, x.words(), words);
            Check.due("entries beside", x.entries(), 16);
        }
    }

    private static void otherWords() {
        Check.says("Promise 1: 65536 for any other number");
        for (int words : new int[] {63, 65537, 0, 1, -1, -64, Integer.MIN_VALUE, Integer.MAX_VALUE}) {
            TabledStore x = new TabledStore(words, 16);
            Check.due("words of " + words, x.words(), 65536);
            Check.due("entries beside", x.entries(), 16);
        }
    }

    private static void entries() {
        Check.says("Promise 1: and entries (16 .. 8192");
        for (int entries : new int[] {16, 17, 100, 8191, 8192}) {
            TabledStore x = new TabledStore(64, entries);
            Check.due("entries of " + entries, x.entries(), entries);
            Check.due("words beside", x.words(), 64);
        }
    }

    private static void otherEntries() {
        Check.says("Promise 1: 8192 for any other");
        for (int entries : new int[] {15, 8193, 0, 1, -1, -16, Integer.MIN_VALUE, Integer.MAX_VALUE}) {
            TabledStore x = new TabledStore(64, entries);
            Check.due("entries of " + entries, x.entries(), 8192);
            Check.due("words beside", x.words(), 64);
        }
    }

    private static void bothOther() {
        Check.says("Promise 1: 65536 for any other number) and entries (16 .. 8192; 8192 for any other)");
        TabledStore x = new TabledStore(63, 8193);
        Check.due("words of 63", x.words(), 65536);
        Check.due("entries of 8193", x.entries(), 8192);
    }

    /** Not what words() answers, but what can be made of them. */
    private static void wordsToTheLast() {
        Check.says("Promise 1: A store of so many words");
        Check.taken(() -> new TabledStore(64, 16), "slots in 64 words:", (x, n) -> x.make(0, 1, n, true), 60);
        Check.noRoom(() -> new TabledStore(64, 16), "61 slots in 64 words", x -> x.make(0, 1, 61, true));
        Check.taken(() -> new TabledStore(65, 16), "slots in 65 words:", (x, n) -> x.make(0, 1, n, true), 61);
        for (int words : new int[] {65536, 63, 65537}) {
            TabledStore x = new TabledStore(words, 8192);
            Check.due("chain of 104 words each in " + words, x.chain(0, 1, 100, 4000), 630);
            Check.due("words left", x.words(), 16);
            Check.due("make of 17 words", Check.thrown(x, y -> y.make(2, 1, 13, true)),
                    Check.NO_ROOM);
            Check.due("make of 16 words", x.make(2, 1, 12, true), 631);
            Check.due("words left", x.words(), 0);
            x.number(3, 77);
            x.put(2, 11, 3);
            x.get(4, 2, 11);
            Check.due("the last word", x.value(4), 77);
        }
    }

    private static void entriesToTheLast() {
        Check.says("Promise 1: and entries");
        for (int entries : new int[] {16, 17, 15, 8191, 8192, 8193}) {
            int due = entries == 15 || entries == 8193 ? 8192 : entries;
            TabledStore x = new TabledStore(65536, entries);
            int made = 0;
            for (int turn = 0; turn < 3; turn++) {
                made += x.chain(0, 1, 1, 4000);
            }
            Check.due("made of " + entries + " entries", made, due);
            Check.due("entries left", x.entries(), 0);
            Check.due("the last made", x.value(0), due);
            Check.due("walk back to the first", x.walk(0, 0, 10000), due);
            Check.due("entries when all are let go", x.entries(), due);
        }
    }

    private static void empty() {
        Check.says("Promise 1: A store ..");
        TabledStore x = new TabledStore(64, 16);
        for (int r = 0; r < 32; r++) {
            Check.due("kind of register " + r, x.kind(r), 0);
            Check.due("value of register " + r, x.value(r), 0);
        }
        Check.due("instance", x.instance(0, 1, 0), 0);
    }
}
