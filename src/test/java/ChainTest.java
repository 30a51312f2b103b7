/** Promise 7: chain. */
public final class ChainTest {
    public static void main(String[] args) {
        many();
        slots();
        itsClass();
        ofTheOneBefore();
        whatTheRegisterHad();
        registers();
        perhapsNone();
        lastWords();
        lastEntries();
        roomLetGo();
        noSuchRegister();
        noSuchMany();
        noSuchN();
        Check.end();
    }

    private static void many() {
        Check.says("Promise 7: Up to many (1 .. 4000) new objects .. Answers how many");
        for (int many : new int[] {1, 2, 3999, 4000}) {
            TabledStore x = Stores.largest();
            Check.due("chain of " + many, x.chain(0, 31, 1, many), many);
            Check.due("the last one's identity", x.value(0), many);
            Check.due("entries then", x.entries(), 8192 - many);
            Check.due("words then", x.words(), 65536 - 5 * many);
            Check.due("back to what was before them", x.walk(0, 0, 10000), many);
        }
    }

    private static void slots() {
        Check.says("Promise 7: new objects of n slots (1 .. 100)");
        for (int n : new int[] {1, 2, 99, 100}) {
            TabledStore x = Stores.largest();
            Check.due("chain of slots " + n, x.chain(0, 31, n, 3), 3);
            Check.due("kind", x.kind(0), 2);
            Check.due("size of the last", x.size(0), n);
            Check.due("nil in all slots but two", x.owners(31), 31 + 3 + 3 * n - 2);
            x.walk(0, 0, 2);
            Check.due("size of the first", x.size(0), n);
        }
    }

    private static void itsClass() {
        Check.says("Promise 7: each with the class that register c has then");
        TabledStore x = new TabledStore(200, 16);
        x.make(5, 31, 0, false);
        x.chain(0, 5, 2, 3);
        for (int k = 4; k >= 2; k--) {
            Check.due("the one in the register", x.value(0), k);
            x.classOf(1, 0);
            Check.due("its class", x.value(1), 1);
            x.get(0, 0, 0);
        }
        x.number(5, 1073741823);
        x.chain(0, 5, 2, 2);
        Check.due("the second of class 1073741823", x.instance(1, 5, 1), 6);
        Check.due("no third", x.instance(1, 5, 2), 0);
    }

    private static void ofTheOneBefore() {
        Check.says("Promise 7: (if that is r, the one made before)");
        TabledStore x = new TabledStore(100, 16);
        x.number(0, 8);
        Check.due("chain of its own class", x.chain(0, 0, 1, 3), 3);
        x.classOf(1, 0);
        Check.due("the third's class", x.value(1), 2);
        x.classOf(1, 1);
        Check.due("the second's class", x.value(1), 1);
        x.classOf(1, 1);
        Check.due("the first's class is what r had", x.value(1), 8);
        x = new TabledStore(100, 16);
        x.make(0, 31, 0, false);
        x.chain(0, 0, 1, 1);
        x.classOf(1, 0);
        Check.due("the only one's class is what r had", x.value(1), 1);
    }

    private static void whatTheRegisterHad() {
        Check.says("Promise 7: slot 0 of each has what register r had, and it is what register r has then");
        TabledStore x = new TabledStore(100, 16);
        x.number(0, 8);
        x.number(1, 5);
        x.chain(0, 1, 2, 3);
        Check.due("register r", x.value(0), 3);
        Check.due("register c", x.value(1), 5);
        x.get(2, 0, 1);
        Check.due("slot 1", x.kind(2), 0);
        x.get(2, 0, 0);
        Check.due("slot 0 of the third", x.value(2), 2);
        x.get(2, 2, 0);
        Check.due("slot 0 of the second", x.value(2), 1);
        x.get(2, 2, 0);
        Check.due("slot 0 of the first", x.value(2), 8);
        x = new TabledStore(100, 16);
        x.chain(0, 31, 1, 1);
        x.get(2, 0, 0);
        Check.due("slot 0 where r had nil", x.kind(2), 0);
        x.make(0, 31, 9, false);
        x.chain(0, 31, 1, 1);
        x.get(2, 0, 0);
        Check.due("slot 0 where r had bytes", x.value(2), 2);
        x.clear(2);
        Check.due("words with what r had", x.words(), 100 - 5 - 7);
    }

    private static void registers() {
        Check.says("Promise 7: register r .. register c");
        TabledStore x = Stores.slotsEverywhere();
        Check.due("into the first, of the last's class", x.chain(0, 31, 1, 2), 2);
        Check.due("and there it is", x.value(0), 34);
        x.classOf(5, 0);
        Check.due("its class", x.value(5), 32);
        Check.due("into the last, of the first's class", x.chain(31, 0, 1, 2), 2);
        Check.due("and there it is", x.value(31), 36);
        x.classOf(5, 31);
        Check.due("its class", x.value(5), 34);
    }

    private static void perhapsNone() {
        Check.says("Promise 7: are made as long as they can be (perhaps none)");
        Check.due("without words", Stores.withoutWords().chain(0, 31, 1, 1), 0);
        Check.due("without words, many", Stores.withoutWords().chain(0, 31, 100, 4000), 0);
        Check.due("with 4 words", Stores.withWordsLeft(4).chain(0, 31, 1, 1), 0);
        Check.due("with 5 words", Stores.withWordsLeft(5).chain(0, 31, 1, 4000), 1);
        Check.due("without entries", Stores.withoutEntries().chain(0, 31, 1, 1), 0);
        Check.stays(Stores::withoutWords, "none over an object", x -> x.chain(0, 1, 1, 4000));
        Check.stays(Stores::withoutWords, "none over a number", x -> x.chain(1, 1, 1, 4000));
        Check.stays(Stores::withoutWords, "none over nil", x -> x.chain(2, 0, 100, 1));
        Check.stays(Stores::withoutEntries, "none without entries", x -> x.chain(0, 1, 1, 4000));
        Check.stays(Stores::withoutEntries, "none over nil without entries", x -> x.chain(29, 29, 100, 4000));
    }

    private static void lastWords() {
        Check.says("Promise 7: are made as long as they can be");
        for (int left = 0; left <= 30; left++) {
            TabledStore x = Stores.withWordsLeft(left);
            Check.due("chain of 6 words in " + left, x.chain(1, 31, 2, 4000), left / 6);
            Check.due("words then", x.words(), left % 6);
            Check.due("the last made", x.value(1), left < 6 ? 5 : 1 + left / 6);
            x.clear(0);
            Check.due("the next one's identity", x.make(2, 31, 0, true), 2 + left / 6);
        }
    }

    private static void lastEntries() {
        Check.says("Promise 7: are made as long as they can be");
        for (int left = 0; left <= 16; left++) {
            TabledStore x = Stores.withEntriesLeft(left);
            Check.due("chain in " + left + " entries", x.chain(25, 31, 3, 4000), left);
            Check.due("entries then", x.entries(), 0);
            x = Stores.withEntriesLeft(left);
            Check.due("chain of just so many", left == 0 ? 0 : x.chain(25, 31, 3, left), left);
        }
    }

    private static void roomLetGo() {
        Check.says("Terms: (What is not reachable any more takes none.) (chain)");
        TabledStore x = Stores.withoutWords();
        x.clear(0);
        Check.due("chain where an object was", x.chain(0, 31, 2, 4000), 10);
        Check.due("words then", x.words(), 4);
        x.clear(0);
        Check.due("chain where a chain was", x.chain(0, 31, 1, 4000), 12);
        x = Stores.withoutEntries();
        x.clear(3);
        x.clear(9);
        Check.due("chain with entries let go", x.chain(3, 31, 1, 4000), 2);
        x.walk(3, 0, 1);
        Check.due("chain with the one entry let go", x.chain(9, 31, 1, 4000), 1);
        Check.due("its identity", x.value(9), 19);
    }

    private static void noSuchRegister() {
        Check.says("Promise 7: there is no such register");
        Check.badRegister("chain into", (x, r) -> x.chain(r, 0, 1, 1));
        Check.badRegister("chain of class", (x, r) -> x.chain(0, r, 1, 1));
        Check.badArgument(Stores::withoutWords, "chain without a register and words", x -> x.chain(32, 0, 1, 1));
    }

    private static void noSuchMany() {
        Check.says("Promise 7: there is no such register, many");
        int[] bad = {0, -1, 4001, Integer.MIN_VALUE, Integer.MAX_VALUE};
        Check.badNumbers("chain of many", (x, many) -> x.chain(0, 0, 1, many), bad);
        for (int many : bad) {
            Check.badArgument(Stores::largest, "chain with room, of " + many, x -> x.chain(0, 0, 1, many));
            Check.badArgument(Stores::withoutWords, "chain without words, of " + many, x -> x.chain(0, 0, 1, many));
        }
    }

    private static void noSuchN() {
        Check.says("Promise 7: there is no such register, many or n");
        int[] bad = {0, -1, 101, 4000, Integer.MIN_VALUE, Integer.MAX_VALUE};
        Check.badNumbers("chain of slots", (x, n) -> x.chain(0, 0, n, 1), bad);
        for (int n : bad) {
            Check.badArgument(Stores::largest, "chain with room, of slots " + n, x -> x.chain(0, 0, n, 1));
            Check.badArgument(Stores::withoutWords, "chain without words, of slots " + n, x -> x.chain(0, 0, n, 1));
        }
        Check.badArgument("chain with nothing right", x -> x.chain(-1, 32, 0, 4001));
    }
}
